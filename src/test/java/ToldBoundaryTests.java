import java.math.BigInteger;
import java.util.ArrayList;
import java.util.List;

/** Boundary cases of "what is told of all": promises 20 to 23, and the sentences ahead of them that they rest on. */
public final class ToldBoundaryTests extends Boundaries {
    public static void main(String[] args) {
        runAll(ToldBoundaryTests.class, 20, 23);
    }

    // ---- promise 20: image

    @Says("STATE: no GALLERY.")
    static void promise20_image_withoutAGallery() {
        LentGallery g = page("123456;11");
        refuses(g, "image()", g::image, STATE);
        g.gallery();
        due("nothing was kept", g.restore(), STATE);
    }

    @Says("An IMAGE is kept (one; the latest): how many DAYS there were.")
    static void promise20_image_atOnce() {
        LentGallery g = read("999999;11");
        due("image()", g.image(), 0);
        due("restore()", g.restore(), 0);
    }

    @Says("An IMAGE is kept (one; the latest): how many DAYS there were.")
    static void promise20_image_theLatest() {
        LentGallery g = read("999999;11");
        g.tenant(TENANT, 0);
        g.image();
        days(g, 2);
        due("image()", g.image(), 2);
        g.day();
        due("restore()", g.restore(), 2);
        dueStrong(g, 7, 9, 9, 9, 9, 9);
        due("restore() again: the first is gone", g.restore(), 2);
    }

    @Says("An IMAGE is kept (one; the latest): how many DAYS there were.")
    static void promise20_image_ofAnEarlierDay() {
        LentGallery g = read("999999;11");
        g.tenant(TENANT, 0);
        g.image();
        days(g, 3);
        g.restore();
        g.day();
        due("image()", g.image(), 1);
        days(g, 5);
        due("restore()", g.restore(), 1);
    }

    @Says("An IMAGE is kept (one; the latest): how many DAYS there were.")
    static void promise20_image_changesNothing() {
        LentGallery g = read("129999;11");
        g.tenant(CHAPEL, 3);
        g.knock(3, 3, true);
        long ahead = g.digest();
        g.image();
        due("digest()", g.digest(), ahead);
    }

    // ---- promise 21: restore

    @Says("STATE: none was kept")
    static void promise21_restore_noneWasKept() {
        LentGallery none = new LentGallery();
        refuses(none, "restore() without a gallery", none::restore, STATE);
        LentGallery g = read("999999;11");
        g.tenant(TENANT, 0);
        g.day();
        refuses(g, "restore()", g::restore, STATE);
    }

    @Says("or there is another GALLERY since.")
    static void promise21_restore_anotherGallery() {
        LentGallery g = read("999999;11");
        g.image();
        write(g, "555555;55");
        g.gallery();
        refuses(g, "restore()", g::restore, STATE);
        dueStrong(g, 5, 5, 5, 5, 5, 5);
        g.image();
        due("an image of that", g.restore(), 0);
    }

    @Says("or there is another GALLERY since.")
    static void promise21_restore_anotherGalleryOfTheSameText() {
        LentGallery g = read("999999;11");
        g.image();
        write(g, "999999;11");
        g.gallery();
        refuses(g, "restore()", g::restore, STATE);
    }

    @Says("or there is another GALLERY since.")
    static void promise21_restore_aRefusedGalleryIsNoOther() {
        LentGallery g = read("999999;11");
        g.image();
        write(g, "999999;10");
        g.gallery();
        due("restore()", g.restore(), 0);
        due("the page stays", g.count(10), 9);
    }

    @Says("An IMAGE keeps how STRONG all is")
    static void promise21_restore_strong() {
        LentGallery g = read("102999;11");
        g.tenant(COUPLE, 0);
        g.image();
        g.prop(2);
        g.day();
        dueStrong(g, 0, 0, 4, 9, 9, 9);
        g.restore();
        dueStrong(g, 1, 0, 2, 9, 9, 9);
        due("he is not cut off", g.about(0, 4), 0);
        due("prop(0)", g.prop(0), 4);
    }

    @Says("how many TENANTS there are (those that come since are gone by restore())")
    static void promise21_restore_whoCameSinceIsGone() {
        LentGallery g = read("999999;11");
        g.tenant(SCHOOL, 3);
        g.image();
        for (int i = 0; i < 4; i++) {
            g.tenant(CHAPEL, 3);
        }
        g.restore();
        due("count(3)", g.count(3), 1);
        due("place(3, 1)", g.place(3, 1), 2);
        due("place(3, 2)", g.place(3, 2), 1);
        refuses(g, "about(1, 0)", () -> g.about(1, 0), UNKNOWN);
        refuses(g, "move(1, 0)", () -> g.move(1, 0), UNKNOWN);
        due("his number is free", g.tenant(BAKER, 0), 1);
        due("of a new kind", g.about(1, 0), BAKER);
        due("his breath", g.about(1, 3), 2);
        due("and three more", g.tenant(TENANT, 0) + g.tenant(TENANT, 0) + g.tenant(TENANT, 0), 9);
        refuses(g, "a sixth", () -> g.tenant(TENANT, 0), FULL);
    }

    @Says("how many TENANTS there are (those that come since are gone by restore())")
    static void promise21_restore_ofNobodyAndOfAll() {
        LentGallery g = read("999999;11");
        g.image();
        g.tenant(CHAPEL, 0);
        g.restore();
        due("count(3)", g.count(3), 0);
        due("place(0, 1)", g.place(0, 1), 0);
        refuses(g, "years(1, 0, 0)", () -> g.years(1, 0, 0), STATE);
        for (int kind = 0; kind < 5; kind++) {
            g.tenant(kind, kind);
        }
        g.image();
        long kept = g.digest();
        for (int t = 0; t < 5; t++) {
            g.move(t, 5);
        }
        g.restore();
        due("digest()", g.digest(), kept);
        refuses(g, "a sixth", () -> g.tenant(TENANT, 0), FULL);
    }

    @Says("their PLACES, DAYS, FALLS, PROPS, KNOCKS")
    static void promise21_restore_places() {
        LentGallery g = read("999999;11");
        g.tenant(SCHOOL, 0);
        g.tenant(TENANT, 5);
        g.image();
        g.move(0, 5);
        g.move(1, 2);
        g.restore();
        due("about(0, 1)", g.about(0, 1), 0);
        due("about(1, 1)", g.about(1, 1), 5);
        due("place(0, 1)", g.place(0, 1), 2);
        due("place(2, 1)", g.place(2, 1), 0);
        due("place(5, 1)", g.place(5, 1), 1);
    }

    @Says("their PLACES, DAYS, FALLS, PROPS, KNOCKS")
    static void promise21_restore_daysFallsAndProps() {
        LentGallery g = read("119999;11");
        g.tenant(TENANT, 0);
        g.prop(5);
        g.day();
        g.image();
        g.prop(5);
        g.prop(4);
        days(g, 3);
        due("count(7) ahead of it", g.count(7), 2);
        due("restore()", g.restore(), 1);
        due("count(6)", g.count(6), 1);
        due("count(7)", g.count(7), 1);
        due("count(8)", g.count(8), 1);
        g.day();
        due("the next day", g.count(6), 2);
    }

    @Says("their PLACES, DAYS, FALLS, PROPS, KNOCKS")
    static void promise21_restore_knocks() {
        LentGallery g = read("999999;11");
        g.tenant(TENANT, 0);
        g.knock(0, 3, true);
        g.knock(0, 6, false);
        g.image();
        due("ahead of it", g.place(0, 4), 0b1110000);
        g.forget();
        g.restore();
        due("count(9)", g.count(9), 2);
        due("behind forget()", g.place(0, 4), 0b1110000);
        for (int n = 0; n < 6; n++) {
            g.knock(0, 0, false);
        }
        due("six more", g.place(0, 4), 0);
        g.restore();
        due("count(9)", g.count(9), 2);
        due("behind them", g.place(0, 4), 0b1110000);
        g.forget();
        g.knock(5, 20, true);
        g.knock(5, 20, true);
        g.restore();
        due("behind others in their stead", g.place(0, 4), 0b1110000);
    }

    @Says("An IMAGE keeps how STRONG all is")
    static void promise21_restore_leavesWhatIsNotKept() {
        LentGallery g = read("999999;11");
        g.letter('1');
        g.image();
        g.letter('2');
        g.where(0);
        g.restore();
        due("count(10)", g.count(10), 2);
        due("count(11)", g.count(11), 1);
        due("count(12)", g.count(12), 1);
        g.blank();
        g.restore();
        due("count(10) of a blank page", g.count(10), 0);
    }

    @Says("It goes on from the IMAGE: how many DAYS there were.")
    static void promise21_restore_twice() {
        LentGallery g = read("999999;11");
        g.tenant(CHAPEL, 0);
        g.day();
        g.image();
        long kept = g.digest();
        for (int n = 0; n < 3; n++) {
            days(g, 2);
            due("restore()", g.restore(), 1);
            due("digest()", g.digest(), kept);
        }
    }

    // ---- promise 22: count

    @Says("OUTSIDE.")
    static void promise22_count_whatIsOutside() {
        LentGallery none = new LentGallery();
        LentGallery g = read("999999;11");
        for (int what : new int[] {-1, 13, LOW, HIGH}) {
            refuses(none, "count(" + what + ") without a gallery", () -> none.count(what), OUTSIDE);
            refuses(g, "count(" + what + ")", () -> g.count(what), OUTSIDE);
        }
    }

    @Says("2 CAGE (0: no GALLERY)")
    static void promise22_count_withoutAGallery() {
        LentGallery g = page("123456;78");
        due("count(2)", g.count(2), 0);
        due("count(0)", g.count(0), 0);
        due("count(1)", g.count(1), 0);
        due("count(10)", g.count(10), 9);
        g.gallery();
        due("count(2)", g.count(2), 8);
        due("count(1)", g.count(1), 7);
    }

    @Says("0 PLACES that have not FALLEN")
    static void promise22_count_placesThatStand() {
        LentGallery g = read("100001;11");
        due("two", g.count(0), 2);
        g.day();
        due("none", g.count(0), 0);
        due("all", read("111111;11").count(0), 6);
    }

    @Says("3 TENANTS, 4 CUT OFF, 5 that GASP")
    static void promise22_count_noneAndAllTenants() {
        LentGallery g = read("199999;91");
        fillWith(g, COUPLE, 5);
        due("count(3)", g.count(3), 5);
        due("count(4)", g.count(4), 0);
        due("count(5)", g.count(5), 0);
        g.move(0, 0);
        g.move(1, 0);
        due("they get air", g.count(5), 0);
        LentGallery cut = read("199999;91");
        cut.tenant(TENANT, 0);
        cut.tenant(COUPLE, 0);
        cut.tenant(COUPLE, 1);
        cut.tenant(COUPLE, 4);
        cut.tenant(COUPLE, 5);
        cut.day();
        due("count(4)", cut.count(4), 5);
        due("count(5)", cut.count(5), 5);
    }

    @Says("5 that GASP")
    static void promise22_count_whoGaspsIsNotAlwaysCutOff() {
        LentGallery g = read("990999;11");
        g.tenant(COUPLE, 0);
        g.tenant(COUPLE, 1);
        g.tenant(COUPLE, 3);
        due("count(4)", g.count(4), 1);
        due("count(5)", g.count(5), 2);
    }

    @Says("6 DAYS, 7 FALLS of all DAYS")
    static void promise22_count_fallsOfAllDays() {
        LentGallery g = read("012012;11");
        // 1 and 4 fall by what had fallen beside them, then 2, and last 5, which is less by 1 from the second day on
        int[] falls = {2, 3, 4};
        for (int n = 1; n <= 3; n++) {
            g.day();
            due("count(6)", g.count(6), n);
            due("count(7)", g.count(7), falls[n - 1]);
        }
        due("what had fallen at first is no fall", g.count(0), 0);
    }

    @Says("8 PROPS that were set, 9 KNOCKS, 10 letters of THE PAGE")
    static void promise22_count_refusedOnesAreNotCounted() {
        LentGallery g = read("902999;11");
        g.prop(1);
        g.prop(6);
        propTimes(g, 0, 4);
        g.knock(6, 0, true);
        g.knock(0, 21, true);
        g.letter(0);
        g.letter(127);
        due("count(8)", g.count(8), 3);
        due("count(9)", g.count(9), 0);
        due("count(10)", g.count(10), 0);
    }

    @Says("11 how often a GALLERY was read")
    static void promise22_count_galleriesRead() {
        LentGallery g = new LentGallery();
        for (int n = 1; n <= 3; n++) {
            write(g, "999999;11");
            g.gallery();
            g.gallery();
            due("count(11)", g.count(11), n);
        }
    }

    @Says("An object is used for at most 512 calls after it has been made")
    static void promise22_count_theLastCall() {
        LentGallery g = read("299999;11");
        g.tenant(COUPLE, 0);
        for (int call = 12; call <= 511; call++) {
            g.day();
        }
        due("the 512th call", g.count(6), 500);
    }

    // ---- promise 23: digest

    @Says("h is 919, then for each of these numbers, in order, 31 times h, and it (as longs, wrapping)")
    static void promise23_digest_ofANewObject() {
        due("digest()", new LentGallery().digest(), digestOf(new int[13]));
    }

    @Says("letters of THE PAGE; what count() tells for 0 to 12.")
    static void promise23_digest_ofLettersAlone() {
        LentGallery g = page("~");
        g.letter(1);
        due("two", g.digest(), digestOf(126, 1, 0, 0, 0, 0, 0, 0, 0, 0, 0, 0, 2, 0, 0));
        LentGallery full = page("123456789:;<");
        due("twelve", full.digest(),
            digestOf(49, 50, 51, 52, 53, 54, 55, 56, 57, 58, 59, 60, 0, 0, 0, 0, 0, 0, 0, 0, 0, 0, 12, 0, 0));
        full.blank();
        due("none", full.digest(), digestOf(new int[13]));
    }

    @Says("with a GALLERY of each PLACE what place() tells for 0 to 5")
    static void promise23_digest_ofAGalleryWithoutTenants() {
        List<Integer> all = new ArrayList<>();
        int[] strong = {2, 0, 3, 9, 9, 9};
        int[] less = {1, 0, 1, 0, 0, 0};
        // 0 and 2, beside a fallen place, fall on the day of their number: day 4 halves them; 3 is less from day 4 on, as
        // 2 falls on day 3: day 7 halves it; of the others 0 alone has fallen on all of the ten days
        int[] knock = {4, 1, 4, 7, 1, 1};
        for (int p = 0; p < 6; p++) {
            all.addAll(List.of(strong[p], 0, 0, less[p], 1023, knock[p]));
        }
        all.addAll(List.of(2, 0));
        all.addAll(List.of(3, 2, 0, 1, 0, 0, 0));
        all.addAll(List.of(5, 7, 8, 0, 0, 0, 0, 0, 0, 0, 0, 1, 0));
        due("digest()", read("203999;78").digest(), digestOf(all.stream().mapToInt(i -> i).toArray()));
    }

    @Says("of each TENANT what about() tells for 0 to 5; with a GALLERY HOLDS, OUT, what props() tells of 5 DAYS for 0 and 10 to 15")
    static void promise23_digest_ofFiveTenants() {
        LentGallery g = read("909124;53");
        for (int kind = 0; kind < 5; kind++) {
            g.tenant(kind, kind == 0 ? 0 : 5 - kind % 2);
        }
        for (int n = 0; n < 8; n++) {
            g.knock(5, n, n < 1);
        }
        write(g, "999999;99999");
        for (int n = 0; n < 13; n++) {
            g.where(0);
        }
        due("digest()", g.digest(), digestOf(toldBy(g, "999999;99999")));
        g.day();
        due("digest() behind a day", g.digest(), digestOf(toldBy(g, "999999;99999")));
    }

    @Says("with a GALLERY HOLDS, OUT, what props() tells of 5 DAYS for 0 and 10 to 15")
    static void promise23_digest_ofNoProps() {
        LentGallery g = read("999999;53");
        g.tenant(CHAPEL, 2);
        due("props(5, 0)", g.props(5, 0), NONE);
        due("digest()", g.digest(), digestOf(toldBy(g, "")));
    }

    @Says("long digest()")
    static void promise23_digest_changesNothing() {
        LentGallery g = read("909124;53");
        g.tenant(CHAPEL, 2);
        g.knock(2, 1, true);
        write(g, "12");
        long first = g.digest();
        due("again", g.digest(), first);
        due("count(12)", g.count(12), 0);
        due("count(6)", g.count(6), 0);
    }

    private static int[] toldBy(LentGallery g, String page) {
        List<Integer> all = new ArrayList<>();
        for (int i = 0; i < 36; i++) {
            all.add(g.place(i / 6, i % 6));
        }
        for (int i = 0; i < 6 * g.count(3); i++) {
            all.add(g.about(i / 6, i % 6));
        }
        all.add(g.holds());
        all.add(g.out());
        for (int what : new int[] {0, 10, 11, 12, 13, 14, 15}) {
            all.add(g.props(5, what));
        }
        page.chars().forEach(all::add);
        for (int what = 0; what <= 12; what++) {
            all.add(g.count(what));
        }
        return all.stream().mapToInt(i -> i).toArray();
    }

    /** Reckoned without bounds, and cut to 64 bits only at the end. */
    private static long digestOf(int... numbers) {
        BigInteger h = BigInteger.valueOf(919);
        for (int n : numbers) {
            h = h.multiply(BigInteger.valueOf(31)).add(BigInteger.valueOf(n));
        }
        return h.longValue();
    }
}
