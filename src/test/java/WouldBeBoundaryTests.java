/** Boundary cases of "what would be": promises 13 to 16, and the sentences ahead of them that they rest on. */
public final class WouldBeBoundaryTests extends Boundaries {
    public static void main(String[] args) {
        runAll(WouldBeBoundaryTests.class, 13, 16);
    }

    // ---- promise 13: holds

    @Says("STATE: no GALLERY.")
    static void promise13_holds_withoutAGallery() {
        LentGallery g = page("123456;11");
        refuses(g, "holds()", g::holds, STATE);
    }

    @Says("HOLDS; NONE.")
    static void promise13_holds_none() {
        due("nobody", read("111111;11").holds(), NONE);
        due("all have fallen", read("000000;11").holds(), NONE);
        LentGallery g = read("111111;11");
        fillWith(g, COUPLE, 0);
        due("couples", g.holds(), NONE);
    }

    @Says("HOLDS; NONE.")
    static void promise13_holds_noneBehindAllFalls() {
        LentGallery g = read("100000;11");
        g.tenant(CHAPEL, 0);
        g.day();
        due("all have fallen, with a chapel there", g.holds(), NONE);
    }

    @Says("behind how many DAYS from now (1 to 40) a PLACE FALLS first")
    static void promise13_holds_oneDay() {
        LentGallery g = read("499999;11");
        g.tenant(CHAPEL, 0);
        due("4 by 4", g.holds(), 1);
        g.prop(0);
        g.prop(0);
        due("10 by 4", g.holds(), 3);
        g.day();
        due("from now: 6 by 4", g.holds(), 2);
        due("beside a fallen one", read("109999;11").holds(), 1);
    }

    @Says("behind how many DAYS from now (1 to 40) a PLACE FALLS first")
    static void promise13_holds_theMostDays() {
        LentGallery g = read("299999;11");
        propTimes(g, 0, 6);
        g.tenant(TENANT, 0);
        due("20 by 1", g.holds(), 20);
        LentGallery even = read("999999;11");
        even.tenant(BAKER, 5);
        due("9 by 1", even.holds(), 9);
    }

    @Says("a PLACE FALLS first")
    static void promise13_holds_theFirstOfSeveral() {
        LentGallery g = read("939999;11");
        g.tenant(SCHOOL, 0);
        g.tenant(TENANT, 1);
        g.tenant(CHAPEL, 5);
        due("9 by 2, 3 by 1, 9 by 4", g.holds(), 3);
        g.prop(1);
        due("6 by 1: now 9 by 4", g.holds(), 3);
        g.prop(5);
        due("12 by 4", g.holds(), 3);
        g.prop(5);
        due("15 by 4", g.holds(), 4);
    }

    @Says("behind how many DAYS from now (1 to 40) a PLACE FALLS first")
    static void promise13_holds_changesNothing() {
        LentGallery g = read("199999;11");
        g.tenant(TENANT, 0);
        long ahead = g.digest();
        g.holds();
        due("digest()", g.digest(), ahead);
        dueStrong(g, 1, 9, 9, 9, 9, 9);
    }

    // ---- promise 14: where

    @Says("what = 0 HOLDS (NONE: none FALLS), 10 to 14 the PLACE of TENANT 0 to 4")
    static void promise14_where_whatIsOutside() {
        LentGallery g = read("999999;11");
        g.tenant(TENANT, 0);
        for (int what : new int[] {-1, 1, 5, 9, 15, 16, LOW, LOW + 9, LOW + 10, HIGH}) {
            refuses(g, "where(" + what + ")", () -> g.where(what), OUTSIDE);
        }
        due("count(12)", g.count(12), 0);
    }

    @Says("what = 0 HOLDS (NONE: none FALLS), 10 to 14 the PLACE of TENANT 0 to 4")
    static void promise14_where_theFirstAndTheLastTenant() {
        LentGallery g = read("911111;11");
        g.tenant(COUPLE, 3);
        g.tenant(COUPLE, 3);
        g.tenant(COUPLE, 3);
        g.tenant(COUPLE, 3);
        g.tenant(CHAPEL, 3);
        due("9 by 4", g.where(0), 3);
        due("a couple may be anywhere: place 0", g.where(10), 0);
        due("the chapel", g.where(14), 0);
        LentGallery last = read("111119;11");
        last.tenant(CHAPEL, 0);
        last.tenant(COUPLE, 0);
        last.tenant(COUPLE, 0);
        last.tenant(COUPLE, 0);
        last.tenant(TENANT, 0);
        due("1 by 1 at best, but both in 5: 9 by 5", last.where(0), 2);
        due("the chapel", last.where(10), 5);
        due("the tenant", last.where(14), 5);
    }

    @Says("STATE: no GALLERY")
    static void promise14_where_withoutAGallery() {
        LentGallery g = page("123456;11");
        refuses(g, "where(0)", () -> g.where(0), STATE);
        refuses(g, "where(14)", () -> g.where(14), STATE);
        due("count(12)", g.count(12), 0);
    }

    @Says("or where() was done 12 times.")
    static void promise14_where_twelveTimes() {
        LentGallery g = read("999999;11");
        g.tenant(TENANT, 0);
        for (int n = 1; n <= 12; n++) {
            due("time " + n, g.where(n % 2 == 0 ? 0 : 10), n % 2 == 0 ? 9 : 0);
            due("count(12)", g.count(12), n);
        }
        refuses(g, "a thirteenth time", () -> g.where(0), STATE);
        refuses(g, "a thirteenth time", () -> g.where(10), STATE);
        due("count(12)", g.count(12), 12);
    }

    @Says("they change nothing")
    static void promise14_where_refusedIsNotDone() {
        LentGallery g = new LentGallery();
        g.where(0);
        write(g, "999999;11");
        g.gallery();
        g.where(1);
        due("count(12)", g.count(12), 0);
    }

    /** Taken as of the object's whole life: count(12) and the limit are told of the object, not of its gallery. */
    @Says("or where() was done 12 times.")
    static void promise14_where_twelveTimesOfAllGalleries() {
        LentGallery g = read("999999;11");
        for (int n = 0; n < 7; n++) {
            g.where(0);
        }
        g.image();
        g.where(0);
        g.restore();
        due("count(12) behind restore()", g.count(12), 8);
        write(g, "111111;11");
        g.gallery();
        due("count(12) behind gallery()", g.count(12), 8);
        for (int n = 0; n < 4; n++) {
            g.where(0);
        }
        refuses(g, "a thirteenth time", () -> g.where(0), STATE);
    }

    @Says("OUTSIDE; STATE: no GALLERY, or where() was done 12 times.")
    static void promise14_where_outsideAheadOfState() {
        LentGallery none = new LentGallery();
        refuses(none, "where(9) without a gallery", () -> none.where(9), OUTSIDE);
        LentGallery g = read("999999;11");
        for (int n = 0; n < 12; n++) {
            g.where(0);
        }
        refuses(g, "where(15) behind twelve times", () -> g.where(15), OUTSIDE);
    }

    @Says("HOLDS is greatest (none is more than any)")
    static void promise14_where_noneFalls() {
        LentGallery g = read("111111;11");
        due("no tenants", g.where(0), NONE);
        g.tenant(COUPLE, 4);
        due("a couple", g.where(0), NONE);
        due("its place: the first of like ones", g.where(10), 0);
    }

    @Says("HOLDS is greatest")
    static void promise14_where_nobodyToSettle() {
        LentGallery g = read("309999;11");
        due("3 beside a fallen one", g.where(0), 3);
        due("no tenant 0", g.where(10), NONE);
    }

    @Says("NONE: there is none such, or all have FALLEN")
    static void promise14_where_thereIsNoSuchTenant() {
        LentGallery g = read("999999;11");
        g.tenant(TENANT, 3);
        g.tenant(TENANT, 3);
        due("tenant 1", g.where(11), 1);
        due("tenant 2", g.where(12), NONE);
        due("tenant 4", g.where(14), NONE);
        due("it was done", g.count(12), 3);
    }

    @Says("NONE: there is none such, or all have FALLEN")
    static void promise14_where_allHaveFallen() {
        LentGallery g = read("100000;11");
        g.tenant(TENANT, 0);
        g.day();
        due("where(0)", g.where(0), NONE);
        due("where(10)", g.where(10), NONE);
        due("where(11)", g.where(11), NONE);
        due("it was done", g.count(12), 3);
    }

    @Says("NONE: there is none such, or all have FALLEN")
    static void promise14_where_allHaveFallenSinceItWasDone() {
        LentGallery g = read("130000;11");
        g.tenant(TENANT, 1);
        due("3 by 2 in place 1, 1 by 1 in place 0", g.where(0), 2);
        due("he is best in 1", g.where(10), 1);
        days(g, 3);
        due("count(0)", g.count(0), 0);
        due("where(0)", g.where(0), NONE);
        due("where(10)", g.where(10), NONE);
    }

    @Says("for which PLACES of all TENANTS (of those that have not FALLEN)")
    static void promise14_where_notInAFallenPlace() {
        LentGallery g = read("005000;11");
        g.tenant(TENANT, 2);
        due("5 by 2", g.where(0), 3);
        due("the one that stands", g.where(10), 2);
        LentGallery first = read("099999;11");
        first.tenant(COUPLE, 5);
        due("9 beside a fallen one", first.where(0), 9);
        due("the first that stands", first.where(10), 1);
    }

    @Says("for which PLACES of all TENANTS (of those that have not FALLEN)")
    static void promise14_where_whoIsCutOffIsSettledToo() {
        LentGallery g = read("901111;11");
        g.tenant(CHAPEL, 5);
        due("he is cut off", g.about(0, 4), 1);
        due("2 falls at once, wherever he is", g.where(0), 1);
        g.prop(2);
        due("4 by 1; 9 by 5 in place 0", g.where(0), 2);
        due("over the fallen one", g.where(10), 0);
    }

    @Says("of like ones the first by numbers")
    static void promise14_where_theFirstOfLikeOnes() {
        LentGallery g = read("222222;11");
        g.tenant(TENANT, 5);
        g.tenant(TENANT, 5);
        g.tenant(TENANT, 5);
        due("each alone", g.where(0), 2);
        due("tenant 0", g.where(10), 0);
        due("tenant 1", g.where(11), 1);
        due("tenant 2", g.where(12), 2);
        LentGallery one = read("111111;11");
        one.tenant(TENANT, 5);
        one.tenant(CHAPEL, 4);
        due("one day, wherever they are", one.where(0), 1);
        due("tenant 0", one.where(10), 0);
        due("tenant 1", one.where(11), 0);
    }

    @Says("of like ones the first by numbers")
    static void promise14_where_theLesserNumberIsSettledFirst() {
        LentGallery g = read("333999;11");
        g.tenant(TENANT, 5);
        g.tenant(CHAPEL, 5);
        due("9 by 4, 3 by 1", g.where(0), 3);
        due("the tenant in the first", g.where(10), 0);
        due("the chapel in the first that bears it", g.where(11), 3);
    }

    @Says("HOLDS is greatest")
    static void promise14_where_changesNoPlace() {
        LentGallery g = read("129999;11");
        g.tenant(SCHOOL, 0);
        g.where(0);
        due("about(0, 1)", g.about(0, 1), 0);
        due("place(0, 1)", g.place(0, 1), 2);
        dueStrong(g, 1, 2, 9, 9, 9, 9);
    }

    // ---- promise 15: props

    @Says("OUTSIDE: days, what")
    static void promise15_props_daysAreOutside() {
        LentGallery g = read("999999;11");
        for (int n : new int[] {0, -1, 21, LOW, HIGH}) {
            refuses(g, "props(" + n + ", 0)", () -> g.props(n, 0), OUTSIDE);
        }
    }

    @Says("PROPS for so many DAYS (1 to 20)")
    static void promise15_props_theLeastAndTheMostDays() {
        LentGallery g = read("499999;11");
        g.tenant(CHAPEL, 0);
        due("1 day: 4 by 4 must be above 4", g.props(1, 0), 1);
        due("in place 0", g.props(1, 10), 1);
        LentGallery still = read("111111;11");
        due("20 days", still.props(20, 0), 0);
        LentGallery less = read("299999;11");
        propTimes(less, 0, 6);
        less.tenant(TENANT, 0);
        due("19 days: 20 by 1", less.props(19, 0), 0);
        due("20 days: it would be 23", less.props(20, 0), NONE);
    }

    @Says("what = 0 how few, 10 to 15 how many in PLACE 0 to 5")
    static void promise15_props_whatIsOutside() {
        LentGallery g = read("999999;11");
        for (int what : new int[] {-1, 1, 5, 9, 16, LOW, LOW + 9, LOW + 10, HIGH}) {
            refuses(g, "props(5, " + what + ")", () -> g.props(5, what), OUTSIDE);
        }
    }

    @Says("what = 0 how few, 10 to 15 how many in PLACE 0 to 5")
    static void promise15_props_theFirstAndTheLastPlace() {
        LentGallery g = read("199993;11");
        g.tenant(TENANT, 0);
        g.tenant(SCHOOL, 5);
        due("4 days: 1 by 4, 3 by 8", g.props(4, 0), 4);
        due("in place 0: above 4", g.props(4, 10), 2);
        due("in place 3", g.props(4, 13), 0);
        due("in place 5: above 8", g.props(4, 15), 2);
    }

    @Says("STATE: no GALLERY.")
    static void promise15_props_withoutAGallery() {
        LentGallery g = page("123456;11");
        refuses(g, "props(1, 0)", () -> g.props(1, 0), STATE);
        refuses(g, "props(20, 15)", () -> g.props(20, 15), STATE);
    }

    @Says("OUTSIDE: days, what; STATE: no GALLERY.")
    static void promise15_props_outsideAheadOfState() {
        LentGallery g = new LentGallery();
        refuses(g, "props(0, 0)", () -> g.props(0, 0), OUTSIDE);
        refuses(g, "props(21, 0)", () -> g.props(21, 0), OUTSIDE);
        refuses(g, "props(1, 9)", () -> g.props(1, 9), OUTSIDE);
        refuses(g, "props(1, 16)", () -> g.props(1, 16), OUTSIDE);
    }

    @Says("so that no PLACE FALLS in these")
    static void promise15_props_justSoMany() {
        LentGallery g = read("899999;11");
        g.tenant(SCHOOL, 0);
        due("3 days: 8 by 6", g.props(3, 0), 0);
        due("4 days: 8 by 8, so it falls", g.props(4, 0), 1);
        due("5 days: 11 by 10", g.props(5, 0), 1);
        due("6 days: 14 by 12", g.props(6, 0), 2);
        due("7 days: 17 by 14; 14 would fall", g.props(7, 0), 3);
    }

    @Says("none, if a PLACE would be more than 20 STRONG by them")
    static void promise15_props_upToTwenty() {
        LentGallery g = read("899999;11");
        g.tenant(SCHOOL, 0);
        due("9 days: 20 by 18", g.props(9, 0), 4);
        due("in place 0", g.props(9, 10), 4);
        due("10 days: 20 by 20; it would be 23", g.props(10, 0), NONE);
    }

    @Says("none, if a PLACE would be more than 20 STRONG by them")
    static void promise15_props_notAboveTwenty() {
        LentGallery g = read("999999;11");
        g.tenant(SCHOOL, 0);
        due("8 days: 18 by 16", g.props(8, 0), 3);
        due("9 days: 18 by 18; it would be 21", g.props(9, 0), NONE);
    }

    @Says("NONE: there are none.")
    static void promise15_props_noneForEachWhat() {
        LentGallery g = read("999991;11");
        g.tenant(TENANT, 0);
        g.tenant(CHAPEL, 5);
        due("10 days: place 0 could, place 5 not", g.props(10, 0), NONE);
        for (int what = 10; what <= 15; what++) {
            due("props(10, " + what + ")", g.props(10, what), NONE);
        }
    }

    @Says("so that no PLACE FALLS in these")
    static void promise15_props_ofFallenPlaces() {
        LentGallery g = read("100000;11");
        g.tenant(CHAPEL, 0);
        g.day();
        due("all have fallen, with a chapel there", g.props(20, 0), 0);
        due("in place 0", g.props(20, 10), 0);
        LentGallery beside = read("309999;11");
        due("3 days: 3 beside a fallen one", beside.props(3, 0), 1);
        due("in place 0", beside.props(3, 10), 1);
        due("in the fallen one", beside.props(3, 11), 0);
    }

    @Says("how few PROPS, all set now")
    static void promise15_props_setsNone() {
        LentGallery g = read("199999;11");
        g.tenant(TENANT, 0);
        long ahead = g.digest();
        g.props(3, 0);
        g.props(3, 10);
        due("digest()", g.digest(), ahead);
        due("count(8)", g.count(8), 0);
    }

    // ---- promise 16: out

    @Says("STATE: no GALLERY.")
    static void promise16_out_withoutAGallery() {
        LentGallery g = page("123456;11");
        refuses(g, "out()", g::out, STATE);
    }

    @Says("0: nobody goes")
    static void promise16_out_nobodyGoes() {
        due("no tenants", read("999999;11").out(), 0);
        due("all have fallen", read("000000;11").out(), 0);
        due("all are cut off", outOf("099999;11", 1, 5), 0);
    }

    @Says("all who are not CUT OFF go to the SHAFT")
    static void promise16_out_whoIsCutOffStays() {
        due("place 1 is ahead of the fallen one", outOf("990999;11", 3, 1, 5), 3);
        LentGallery g = read("919999;11");
        g.tenant(TENANT, 0);
        g.tenant(TENANT, 1);
        due("both", g.out(), 3);
        g.day();
        due("he whose own place fell stays", g.out(), 2);
    }

    @Says("then each of the others goes on by one PLACE, from PLACE 0 to the SHAFT")
    static void promise16_out_fromTheFirstAndTheLastPlace() {
        for (int p = 0; p < 6; p++) {
            due("from place " + p, outOf("999999;11", p), p + 2);
        }
    }

    @Says("as many as it holds")
    static void promise16_out_theCageIsFull() {
        int[] minutes = {11, 9, 8, 8, 7, 7, 7, 7, 7};
        for (int cage = 1; cage <= 9; cage++) {
            due("five from place 5 by " + cage, outOf("999999;1" + cage, 5, 5, 5, 5, 5), minutes[cage - 1]);
        }
    }

    @Says("each MINUTE the CAGE takes up those that are at the SHAFT")
    static void promise16_out_theCageGoesWhileOthersCome() {
        due("one by one as they come", outOf("999999;11", 4, 3, 2, 1, 0), 6);
        due("three wait, the fourth comes behind them", outOf("999999;11", 0, 0, 0, 1), 5);
        due("the cage is free again when he comes", outOf("999999;11", 0, 0, 5), 7);
        due("two and two by two", outOf("999999;12", 0, 0, 1, 1), 3);
        due("three and two by two", outOf("999999;12", 0, 0, 0, 1, 1), 4);
    }

    @Says("in how many MINUTES the last one is up")
    static void promise16_out_changesNothing() {
        LentGallery g = read("999999;11");
        g.tenant(TENANT, 3);
        long ahead = g.digest();
        g.out();
        due("digest()", g.digest(), ahead);
        due("about(0, 1)", g.about(0, 1), 3);
    }

    private static int outOf(String text, int... homes) {
        LentGallery g = read(text);
        for (int place : homes) {
            g.tenant(COUPLE, place);
        }
        return g.out();
    }
}
