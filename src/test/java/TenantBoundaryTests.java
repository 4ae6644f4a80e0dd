/** Boundary cases of "tenants, days": promises 8 to 12, and the sentences ahead of them that they rest on. */
public final class TenantBoundaryTests extends Boundaries {
    public static void main(String[] args) {
        runAll(TenantBoundaryTests.class, 8, 12);
    }

    // ---- promise 8: tenant

    @Says("OUTSIDE: kind")
    static void promise08_tenant_kindIsOutside() {
        LentGallery g = read("999999;99");
        for (int kind : new int[] {-1, 5, LOW, HIGH}) {
            refuses(g, "tenant(" + kind + ", 0)", () -> g.tenant(kind, 0), OUTSIDE);
        }
    }

    @Says("are of KINDS: 0 TENANT, 1 SCHOOL, 2 COUPLE, 3 BAKER, 4 CHAPEL")
    static void promise08_tenant_theFirstAndTheLastKind() {
        LentGallery g = read("999999;99");
        due("tenant(0, 0)", g.tenant(0, 0), 0);
        due("tenant(4, 0)", g.tenant(4, 0), 1);
        due("about(0, 0)", g.about(0, 0), 0);
        due("about(1, 0)", g.about(1, 0), 4);
    }

    @Says("UNKNOWN: place")
    static void promise08_tenant_thereIsNoSuchPlace() {
        LentGallery g = read("999999;99");
        for (int p : new int[] {-1, 6, LOW, HIGH}) {
            refuses(g, "tenant(0, " + p + ")", () -> g.tenant(0, p), UNKNOWN);
        }
        LentGallery none = new LentGallery();
        refuses(none, "tenant(0, 0) without a gallery", () -> none.tenant(0, 0), UNKNOWN);
    }

    @Says("each in a PLACE that has not FALLEN")
    static void promise08_tenant_theFirstAndTheLastPlace() {
        LentGallery g = read("100001;99");
        due("tenant(0, 0)", g.tenant(0, 0), 0);
        due("tenant(0, 5)", g.tenant(0, 5), 1);
        due("about(0, 1)", g.about(0, 1), 0);
        due("about(1, 1)", g.about(1, 1), 5);
    }

    @Says("STATE: it has FALLEN")
    static void promise08_tenant_inAFallenPlace() {
        LentGallery g = read("109999;99");
        refuses(g, "tenant(0, 1)", () -> g.tenant(0, 1), STATE);
        g.day();
        refuses(g, "tenant(0, 0), fallen by a day", () -> g.tenant(0, 0), STATE);
    }

    @Says("each in a PLACE that has not FALLEN")
    static void promise08_tenant_behindAFallenPlace() {
        LentGallery g = read("099999;99");
        due("tenant(0, 5)", g.tenant(0, 5), 0);
        due("he is cut off", g.about(0, 4), 1);
    }

    @Says("TENANTS (5 at most, numbered)")
    static void promise08_tenant_theFifthAndTheSixth() {
        LentGallery g = read("999999;99");
        for (int n = 0; n < 5; n++) {
            due("tenant(" + n + ", " + n + ")", g.tenant(n, n), n);
        }
        refuses(g, "a sixth", () -> g.tenant(0, 5), FULL);
        due("count(3)", g.count(3), 5);
        due("place(5, 2)", g.place(5, 2), 0);
    }

    @Says("several may be in one")
    static void promise08_tenant_allInOnePlace() {
        LentGallery g = read("999999;99");
        for (int n = 0; n < 5; n++) {
            due("tenant(" + n + ", 3)", g.tenant(n, 3), n);
        }
        due("place(3, 2)", g.place(3, 2), 31);
        due("place(3, 1)", g.place(3, 1), 8);
    }

    @Says("OUTSIDE: kind; UNKNOWN: place")
    static void promise08_tenant_outsideAheadOfUnknown() {
        LentGallery g = read("999999;99");
        refuses(g, "tenant(5, 6)", () -> g.tenant(5, 6), OUTSIDE);
        refuses(g, "tenant(-1, -1)", () -> g.tenant(-1, -1), OUTSIDE);
        LentGallery none = new LentGallery();
        refuses(none, "tenant(5, 0) without a gallery", () -> none.tenant(5, 0), OUTSIDE);
    }

    @Says("OUTSIDE: kind; UNKNOWN: place; STATE: it has FALLEN")
    static void promise08_tenant_outsideAheadOfState() {
        LentGallery g = read("099999;99");
        refuses(g, "tenant(5, 0)", () -> g.tenant(5, 0), OUTSIDE);
    }

    @Says("OUTSIDE: kind; UNKNOWN: place; STATE: it has FALLEN; FULL.")
    static void promise08_tenant_allAheadOfFull() {
        LentGallery g = read("099999;99");
        fillWith(g, COUPLE, 1);
        refuses(g, "tenant(5, 1)", () -> g.tenant(5, 1), OUTSIDE);
        refuses(g, "tenant(0, 6)", () -> g.tenant(0, 6), UNKNOWN);
        refuses(g, "tenant(0, 0)", () -> g.tenant(0, 0), STATE);
        refuses(g, "tenant(0, 1)", () -> g.tenant(0, 1), FULL);
    }

    // ---- promise 9: about

    @Says("UNKNOWN; OUTSIDE.")
    static void promise09_about_thereIsNoSuchTenant() {
        LentGallery none = new LentGallery();
        refuses(none, "about(0, 0) without a gallery", () -> none.about(0, 0), UNKNOWN);
        LentGallery g = read("999999;99");
        refuses(g, "about(0, 0) without tenants", () -> g.about(0, 0), UNKNOWN);
        g.tenant(TENANT, 0);
        g.tenant(TENANT, 0);
        for (int t : new int[] {-1, 2, 5, LOW, HIGH}) {
            refuses(g, "about(" + t + ", 0)", () -> g.about(t, 0), UNKNOWN);
        }
        due("the last", g.about(1, 1), 0);
        LentGallery full = read("999999;99");
        fillWith(full, TENANT, 0);
        refuses(full, "about(5, 0)", () -> full.about(5, 0), UNKNOWN);
    }

    @Says("UNKNOWN; OUTSIDE.")
    static void promise09_about_whatIsOutside() {
        LentGallery g = read("999999;99");
        g.tenant(TENANT, 0);
        for (int what : new int[] {-1, 6, LOW, HIGH}) {
            refuses(g, "about(0, " + what + ")", () -> g.about(0, what), OUTSIDE);
        }
    }

    @Says("UNKNOWN; OUTSIDE.")
    static void promise09_about_unknownAheadOfOutside() {
        LentGallery g = read("999999;99");
        refuses(g, "about(0, 6)", () -> g.about(0, 6), UNKNOWN);
        refuses(g, "about(-1, -1)", () -> g.about(-1, -1), UNKNOWN);
    }

    @Says("WEIGHT of a TENANT is 1, of a SCHOOL 2, of a COUPLE 0, of a BAKER 1, of a CHAPEL 4")
    static void promise09_about_weightOfEachKind() {
        int[] weights = {1, 2, 0, 1, 4};
        LentGallery g = read("999999;99");
        for (int kind = 0; kind < 5; kind++) {
            g.tenant(kind, kind);
            due("about(" + kind + ", 2)", g.about(kind, 2), weights[kind]);
        }
    }

    @Says("BREATH of a TENANT is 1, of a SCHOOL 3, of a COUPLE 1, of a BAKER 2, of a CHAPEL 3.")
    static void promise09_about_breathOfEachKind() {
        int[] breaths = {1, 3, 1, 2, 3};
        LentGallery g = read("999999;99");
        for (int kind = 0; kind < 5; kind++) {
            g.tenant(kind, kind);
            due("about(" + kind + ", 3)", g.about(kind, 3), breaths[kind]);
        }
    }

    @Says("One is CUT OFF, if a PLACE from 0 to that where he is has FALLEN.")
    static void promise09_about_cutOffByPlace0() {
        LentGallery g = read("099999;99");
        g.tenant(TENANT, 1);
        g.tenant(TENANT, 5);
        due("about(0, 4)", g.about(0, 4), 1);
        due("about(1, 4)", g.about(1, 4), 1);
    }

    @Says("One is CUT OFF, if a PLACE from 0 to that where he is has FALLEN.")
    static void promise09_about_cutOffInHisOwnPlace() {
        LentGallery g = read("991999;99");
        g.tenant(TENANT, 2);
        due("ahead of it", g.about(0, 4), 0);
        g.day();
        due("behind it", g.about(0, 4), 1);
        due("he is still there", g.about(0, 1), 2);
    }

    @Says("One is CUT OFF, if a PLACE from 0 to that where he is has FALLEN.")
    static void promise09_about_notCutOffByWhatLiesBehind() {
        LentGallery g = read("990990;99");
        g.tenant(TENANT, 0);
        g.tenant(TENANT, 1);
        g.tenant(TENANT, 3);
        due("place 0", g.about(0, 4), 0);
        due("right ahead of the fallen one", g.about(1, 4), 0);
        due("right behind it", g.about(2, 4), 1);
        LentGallery last = read("999990;99");
        last.tenant(TENANT, 4);
        due("place 5 alone has fallen", last.about(0, 4), 0);
    }

    @Says("each gets his BREATH, if as much is left, else he GASPS")
    static void promise09_about_airForJustSoMuch() {
        for (int kind = 0; kind < 5; kind++) {
            int breath = new int[] {1, 3, 1, 2, 3}[kind];
            LentGallery enough = read("999999;" + breath + "1");
            enough.tenant(kind, 5);
            due("kind " + kind + ", air " + breath, enough.about(0, 5), 0);
            LentGallery less = read("999999;" + (breath - 1) + "1");
            less.tenant(kind, 5);
            due("kind " + kind + ", air " + (breath - 1), less.about(0, 5), 1);
        }
    }

    @Says("each gets his BREATH, if as much is left, else he GASPS")
    static void promise09_about_theLastOfTheAir() {
        LentGallery g = read("999999;91");
        g.tenant(SCHOOL, 0);
        g.tenant(SCHOOL, 1);
        g.tenant(CHAPEL, 2);
        g.tenant(COUPLE, 3);
        due("3 of 9", g.about(0, 5), 0);
        due("3 of 6", g.about(1, 5), 0);
        due("3 of 3", g.about(2, 5), 0);
        due("1 of 0", g.about(3, 5), 1);
    }

    @Says("else he GASPS (and takes nothing)")
    static void promise09_about_whoGaspsTakesNothing() {
        LentGallery g = read("999999;21");
        g.tenant(SCHOOL, 0);
        g.tenant(BAKER, 1);
        g.tenant(TENANT, 2);
        due("3 of 2", g.about(0, 5), 1);
        due("2 of 2", g.about(1, 5), 0);
        due("1 of 0", g.about(2, 5), 1);
    }

    @Says("AIR goes along the row: to those of PLACE 0 first, and so on")
    static void promise09_about_airByPlaceAheadOfNumber() {
        LentGallery g = read("999999;11");
        g.tenant(TENANT, 5);
        g.tenant(TENANT, 4);
        g.tenant(TENANT, 0);
        due("place 5", g.about(0, 5), 1);
        due("place 4", g.about(1, 5), 1);
        due("place 0", g.about(2, 5), 0);
    }

    @Says("of one PLACE by number")
    static void promise09_about_airOfOnePlaceByNumber() {
        LentGallery g = read("999999;21");
        for (int i = 0; i < 5; i++) {
            g.tenant(TENANT, 4 - i);
        }
        for (int i = 0; i < 5; i++) {
            g.move(4 - i, 5);
        }
        for (int i = 0; i < 5; i++) {
            due("about(" + i + ", 5)", g.about(i, 5), i < 2 ? 0 : 1);
        }
    }

    @Says("who is CUT OFF GASPS")
    static void promise09_about_whoIsCutOffGasps() {
        LentGallery g = read("990999;91");
        g.tenant(COUPLE, 3);
        g.tenant(COUPLE, 1);
        due("behind the fallen one", g.about(0, 5), 1);
        due("ahead of it", g.about(1, 5), 0);
    }

    @Says("4 whether he is CUT OFF (1, 0), 5 whether he GASPS (1, 0)")
    static void promise09_about_theLastTenantGaspsAsOne() {
        LentGallery g = read("999990;01");
        fillWith(g, COUPLE, 4);
        due("about(4, 4)", g.about(4, 4), 0);
        due("about(4, 5)", g.about(4, 5), 1);
        due("about(0, 5)", g.about(0, 5), 1);
    }

    // ---- promise 10: as

    @Says("UNKNOWN; OUTSIDE.")
    static void promise10_as_thereIsNoSuchTenant() {
        LentGallery g = read("999999;99");
        refuses(g, "as(0, 0) without tenants", () -> g.as(0, 0), UNKNOWN);
        fillWith(g, TENANT, 0);
        due("as(4, 0)", g.as(4, 0), 4);
        for (int t : new int[] {-1, 5, LOW, HIGH}) {
            refuses(g, "as(" + t + ", 0)", () -> g.as(t, 0), UNKNOWN);
        }
    }

    @Says("UNKNOWN; OUTSIDE.")
    static void promise10_as_kindIsOutside() {
        LentGallery g = read("999999;99");
        g.tenant(CHAPEL, 0);
        for (int kind : new int[] {-1, 5, LOW, HIGH}) {
            refuses(g, "as(0, " + kind + ")", () -> g.as(0, kind), OUTSIDE);
        }
    }

    @Says("UNKNOWN; OUTSIDE.")
    static void promise10_as_unknownAheadOfOutside() {
        LentGallery g = read("999999;99");
        g.tenant(CHAPEL, 0);
        refuses(g, "as(1, 5)", () -> g.as(1, 5), UNKNOWN);
        refuses(g, "as(-1, -1)", () -> g.as(-1, -1), UNKNOWN);
    }

    @Says("All are TENANTS")
    static void promise10_as_allAreTenants() {
        LentGallery g = read("999999;99");
        for (int kind = 0; kind < 5; kind++) {
            g.tenant(kind, 0);
            due("as(" + kind + ", 0)", g.as(kind, TENANT), kind);
        }
    }

    @Says("a CHAPEL is a SCHOOL, too")
    static void promise10_as_aChapelIsASchool() {
        LentGallery g = read("999999;99");
        g.tenant(CHAPEL, 0);
        g.tenant(SCHOOL, 0);
        due("a chapel as a school", g.as(0, SCHOOL), 0);
        due("a chapel as a chapel", g.as(0, CHAPEL), 0);
        due("a school as a chapel", g.as(1, CHAPEL), NONE);
        due("a school as a school", g.as(1, SCHOOL), 1);
    }

    @Says("NONE: he is none such (the cast fails)")
    static void promise10_as_heIsNoneSuch() {
        LentGallery g = read("999999;99");
        for (int kind = 0; kind < 5; kind++) {
            g.tenant(kind, 0);
        }
        int[][] none = {{0, 1}, {0, 2}, {0, 3}, {0, 4}, {1, 2}, {1, 3}, {1, 4}, {2, 1}, {2, 3}, {2, 4}, {3, 1}, {3, 2}, {3, 4}, {4, 2}, {4, 3}};
        for (int[] n : none) {
            due("as(" + n[0] + ", " + n[1] + ")", g.as(n[0], n[1]), NONE);
        }
        due("a couple as one", g.as(2, COUPLE), 2);
        due("a baker as one", g.as(3, BAKER), 3);
    }

    @Says("A TENANT taken as a KIND: his number")
    static void promise10_as_changesNothing() {
        LentGallery g = read("999999;99");
        g.tenant(CHAPEL, 0);
        long ahead = g.digest();
        g.as(0, SCHOOL);
        due("digest()", g.digest(), ahead);
        due("about(0, 0)", g.about(0, 0), CHAPEL);
        due("about(0, 2)", g.about(0, 2), 4);
    }

    // ---- promise 11: move

    @Says("UNKNOWN: tenant, place")
    static void promise11_move_thereIsNoSuchTenant() {
        LentGallery none = new LentGallery();
        refuses(none, "move(0, 0) without a gallery", () -> none.move(0, 0), UNKNOWN);
        LentGallery g = read("990999;99");
        refuses(g, "move(0, 0) without tenants", () -> g.move(0, 0), UNKNOWN);
        g.tenant(TENANT, 0);
        for (int t : new int[] {-1, 1, 5, LOW, HIGH}) {
            refuses(g, "move(" + t + ", 0)", () -> g.move(t, 0), UNKNOWN);
        }
    }

    @Says("UNKNOWN: tenant, place")
    static void promise11_move_thereIsNoSuchPlace() {
        LentGallery g = read("999999;99");
        g.tenant(TENANT, 0);
        for (int p : new int[] {-1, 6, LOW, HIGH}) {
            refuses(g, "move(0, " + p + ")", () -> g.move(0, p), UNKNOWN);
        }
    }

    @Says("STATE: it has FALLEN, or he is CUT OFF.")
    static void promise11_move_toAFallenPlace() {
        LentGallery g = read("910099;99");
        g.tenant(TENANT, 0);
        refuses(g, "move(0, 2)", () -> g.move(0, 2), STATE);
        g.day();
        refuses(g, "move(0, 1), fallen by a day", () -> g.move(0, 1), STATE);
        due("about(0, 1)", g.about(0, 1), 0);
    }

    @Says("STATE: it has FALLEN, or he is CUT OFF.")
    static void promise11_move_ofOneWhoIsCutOff() {
        LentGallery g = read("990999;99");
        g.tenant(TENANT, 3);
        refuses(g, "to the other side", () -> g.move(0, 1), STATE);
        refuses(g, "to one beside", () -> g.move(0, 4), STATE);
        refuses(g, "to where he is", () -> g.move(0, 3), STATE);
        LentGallery own = read("919999;99");
        own.tenant(TENANT, 1);
        own.day();
        refuses(own, "out of a place that fell", () -> own.move(0, 0), STATE);
    }

    @Says("UNKNOWN: tenant, place; STATE: it has FALLEN, or he is CUT OFF.")
    static void promise11_move_unknownAheadOfState() {
        LentGallery g = read("990999;99");
        g.tenant(TENANT, 3);
        refuses(g, "who is cut off to no place", () -> g.move(0, 6), UNKNOWN);
        refuses(g, "who is not there to a fallen one", () -> g.move(1, 2), UNKNOWN);
    }

    @Says("He moves to another PLACE: where he was.")
    static void promise11_move_fromEndToEnd() {
        LentGallery g = read("999999;99");
        g.tenant(SCHOOL, 0);
        g.tenant(SCHOOL, 0);
        due("move(1, 5)", g.move(1, 5), 0);
        due("place(0, 1)", g.place(0, 1), 2);
        due("place(5, 1)", g.place(5, 1), 2);
        due("place(5, 2)", g.place(5, 2), 2);
        due("move(1, 0)", g.move(1, 0), 5);
        due("place(0, 1)", g.place(0, 1), 4);
        due("place(5, 1)", g.place(5, 1), 0);
    }

    @Says("He moves to another PLACE: where he was.")
    static void promise11_move_overAFallenPlace() {
        LentGallery g = read("990999;99");
        g.tenant(TENANT, 1);
        due("move(0, 3)", g.move(0, 3), 1);
        due("then he is cut off", g.about(0, 4), 1);
    }

    /** The shared runs answer so, though the words are "another". */
    @Says("He moves to another PLACE: where he was.")
    static void promise11_move_toWhereHeIs() {
        LentGallery g = read("999999;99");
        g.tenant(SCHOOL, 3);
        long ahead = g.digest();
        due("move(0, 3)", g.move(0, 3), 3);
        due("digest()", g.digest(), ahead);
    }

    // ---- promise 12: day

    @Says("STATE: no GALLERY.")
    static void promise12_day_withoutAGallery() {
        LentGallery g = page("123456;11");
        refuses(g, "day()", g::day, STATE);
        due("count(6)", g.count(6), 0);
    }

    @Says("by 0, or less, it has FALLEN then (it is 0 STRONG; it counts)")
    static void promise12_day_fallsByJustSoMuch() {
        LentGallery g = read("543999;99");
        g.tenant(CHAPEL, 0);
        g.tenant(CHAPEL, 1);
        g.tenant(CHAPEL, 2);
        due("5, 4 and 3 by 4", g.day(), 2);
        dueStrong(g, 1, 0, 0, 9, 9, 9);
        due("count(0)", g.count(0), 4);
        due("count(7)", g.count(7), 2);
    }

    @Says("each PLACE that has not FALLEN is less STRONG")
    static void promise12_day_whatHasFallenFallsNoMore() {
        LentGallery g = read("199999;99");
        g.tenant(TENANT, 0);
        due("it falls", g.day(), 1);
        due("once", g.day(), 0);
        due("place(0, 0)", g.place(0, 0), 0);
        due("count(7)", g.count(7), 1);
    }

    @Says("if a PLACE right beside it had FALLEN ahead of this DAY")
    static void promise12_day_notByWhatFallsOnTheSameDay() {
        LentGallery g = read("919999;99");
        g.tenant(TENANT, 1);
        due("place 1 falls", g.day(), 1);
        dueStrong(g, 9, 0, 9, 9, 9, 9);
        due("a day", g.day(), 0);
        dueStrong(g, 8, 0, 8, 9, 9, 9);
    }

    @Says("by 1 more, if a PLACE right beside it had FALLEN")
    static void promise12_day_besideTwoByOneAlone() {
        LentGallery g = read("505005;99");
        g.day();
        dueStrong(g, 4, 0, 4, 0, 0, 4);
    }

    @Says("less STRONG by the WEIGHT of all who live in it, and by 1 more, if a PLACE right beside it had FALLEN")
    static void promise12_day_byWeightAndOneBeside() {
        LentGallery g = read("709999;99");
        g.tenant(CHAPEL, 0);
        g.tenant(TENANT, 0);
        g.tenant(COUPLE, 0);
        due("day()", g.day(), 0);
        dueStrong(g, 1, 0, 8, 9, 9, 9);
    }

    @Says("PLACES lie in a row, the SHAFT is ahead of PLACE 0.")
    static void promise12_day_theEndsOfTheRow() {
        LentGallery g = read("990099;99");
        g.day();
        dueStrong(g, 9, 8, 0, 0, 8, 9);
        LentGallery ends = read("099990;99");
        ends.day();
        dueStrong(ends, 0, 8, 9, 9, 8, 0);
    }

    @Says("A DAY: how many PLACES FALL.")
    static void promise12_day_noneAndMany() {
        LentGallery still = read("111111;99");
        due("nobody", still.day(), 0);
        due("count(6)", still.count(6), 1);
        LentGallery fallen = read("000000;99");
        due("all have fallen", fallen.day(), 0);
        due("count(6)", fallen.count(6), 1);
        due("count(7)", fallen.count(7), 0);
        LentGallery many = read("111111;99");
        for (int p = 0; p < 5; p++) {
            many.tenant(TENANT, p);
        }
        due("five", many.day(), 5);
        due("then the sixth", many.day(), 1);
        due("count(0)", many.count(0), 0);
        due("count(7)", many.count(7), 6);
    }

    @Says("of a COUPLE 0")
    static void promise12_day_couplesWeighNothing() {
        LentGallery g = read("111111;99");
        fillWith(g, COUPLE, 0);
        due("day()", g.day(), 0);
        dueStrong(g, 1, 1, 1, 1, 1, 1);
    }
}
