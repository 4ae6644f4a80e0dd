/** For each promise of the document: ordinary calls, the edges that it names, and wrong inputs. Answers are by hand. */
public final class PromiseTests {
    private static final int NONE = LentGallery.NONE, UNKNOWN = LentGallery.UNKNOWN, OUTSIDE = LentGallery.OUTSIDE,
        STATE = LentGallery.STATE, FULL = LentGallery.FULL;
    private static final int LOW = Integer.MIN_VALUE, HIGH = Integer.MAX_VALUE;
    private static final int TENANT = 0, SCHOOL = 1, COUPLE = 2, BAKER = 3, CHAPEL = 4;

    private static int promise = 0;
    private static int wrong = 0;

    public static void main(String[] args) {
        newObject();
        letter();
        blank();
        fault();
        gallery();
        place();
        prop();
        tenant();
        about();
        as();
        move();
        day();
        holds();
        where();
        props();
        out();
        knock();
        forget();
        years();
        image();
        restore();
        count();
        digest();
        nothingByRefusals();
        noCallThrows();
        System.out.println(wrong == 0 ? "all promises hold" : wrong + " answers are not as promised");
        if (wrong != 0) {
            System.exit(1);
        }
    }

    private static void due(String call, long got, long want) {
        if (got != want) {
            wrong++;
            System.out.println("promise " + promise + ": " + call + " answered " + got + ", due is " + want);
        }
    }

    private static void write(LentGallery g, String text) {
        for (char c : text.toCharArray()) {
            g.letter(c);
        }
    }

    private static LentGallery read(String text) {
        LentGallery g = new LentGallery();
        write(g, text);
        g.gallery();
        return g;
    }

    private static int faultOf(String text) {
        LentGallery g = new LentGallery();
        write(g, text);
        return g.fault();
    }

    private static void newObject() {
        promise = 1;
        LentGallery g = new LentGallery();
        for (int what = 0; what <= 12; what++) {
            due("count(" + what + ")", g.count(what), 0);
        }
        due("fault", g.fault(), 0);
        due("gallery", g.gallery(), STATE);
        due("place", g.place(0, 0), UNKNOWN);
        due("place", g.place(0, 9), UNKNOWN);
        due("prop", g.prop(0), UNKNOWN);
        due("tenant", g.tenant(0, 0), UNKNOWN);
        due("tenant", g.tenant(5, 0), OUTSIDE);
        due("about", g.about(0, 0), UNKNOWN);
        due("as", g.as(0, 0), UNKNOWN);
        due("move", g.move(0, 0), UNKNOWN);
        due("day", g.day(), STATE);
        due("holds", g.holds(), STATE);
        due("where", g.where(0), STATE);
        due("where", g.where(1), OUTSIDE);
        due("props", g.props(5, 0), STATE);
        due("props", g.props(0, 0), OUTSIDE);
        due("out", g.out(), STATE);
        due("knock", g.knock(0, 0, true), UNKNOWN);
        due("forget", g.forget(), 0);
        due("years", g.years(1, 0, 0), STATE);
        due("years", g.years(0, 0, 0), OUTSIDE);
        due("image", g.image(), STATE);
        due("restore", g.restore(), STATE);
        due("NONE", NONE, -1);
        due("UNKNOWN", UNKNOWN, -101);
        due("OUTSIDE", OUTSIDE, -102);
        due("STATE", STATE, -103);
        due("FULL", FULL, -104);
    }

    private static void letter() {
        promise = 2;
        LentGallery g = new LentGallery();
        for (int code : new int[] {0, -1, 127, 128, LOW, HIGH}) {
            due("letter " + code, g.letter(code), OUTSIDE);
        }
        due("letter 1", g.letter(1), 1);
        due("letter 126", g.letter(126), 2);
        for (int n = 3; n <= 12; n++) {
            due("letter " + n, g.letter('0'), n);
        }
        due("a thirteenth", g.letter('0'), FULL);
        due("a thirteenth", g.letter('0'), FULL);
        due("OUTSIDE is first", g.letter(0), OUTSIDE);
        due("count", g.count(10), 12);
    }

    private static void blank() {
        promise = 3;
        LentGallery g = new LentGallery();
        due("empty", g.blank(), 0);
        write(g, "12a");
        due("three", g.blank(), 3);
        due("again", g.blank(), 0);
        due("count", g.count(10), 0);
        due("from the start", g.letter('5'), 1);
        due("no old letters", g.fault(), 1);
    }

    private static void fault() {
        promise = 4;
        due("empty", faultOf(""), 0);
        due("a beginning", faultOf("0123"), 4);
        due("six digits", faultOf("999999"), 6);
        due("whole", faultOf("012345;09"), 9);
        due("one more", faultOf("012345;091"), 9);
        due("three more", faultOf("012345;09;;;"), 9);
        due("first", faultOf("x"), 0);
        due("sign ahead of 0", faultOf("1/"), 1);
        due("sign behind 9", faultOf("12:"), 2);
        due("; too soon", faultOf("01234;"), 5);
        due("a seventh digit", faultOf("0123456"), 6);
        due(": for ;", faultOf("012345:11"), 6);
        due("air is no digit", faultOf("012345;;1"), 7);
        due("air 0 and 9", faultOf("012345;9"), 8);
        due("cage 0", faultOf("012345;10"), 8);
        due("cage is no digit", faultOf("012345;1:"), 8);
        due("the first of two", faultOf("01x345;1y"), 2);
        LentGallery g = read("111111;11");
        write(g, "5;");
        due("the page alone counts", g.fault(), 1);
    }

    private static void gallery() {
        promise = 5;
        for (String bad : new String[] {"", "012345", "012345;0", "012345;00", "012345;011", "012345;09;", "0123456;1", "x12345;09"}) {
            LentGallery g = new LentGallery();
            write(g, bad);
            due("gallery of " + bad, g.gallery(), STATE);
            due("the page stays", g.count(10), bad.length());
            due("none was read", g.count(11), 0);
        }
        LentGallery g = new LentGallery();
        write(g, "012340;79");
        due("gallery", g.gallery(), 4);
        due("the page is empty", g.count(10), 0);
        due("air", g.count(1), 7);
        due("cage", g.count(2), 9);
        for (int p = 0; p < 6; p++) {
            due("place " + p, g.place(p, 0), p == 5 ? 0 : p);
        }
        g.tenant(SCHOOL, 1);
        g.prop(2);
        g.knock(0, 0, true);
        g.day();
        g.where(0);
        g.image();
        write(g, "999999;11");
        due("another", g.gallery(), 6);
        for (int what = 3; what <= 10; what++) {
            due("all that was is gone: " + what, g.count(what), 0);
        }
        due("weight", g.place(1, 1), 0);
        due("no tenant", g.about(0, 0), UNKNOWN);
        due("knocks are gone", g.place(0, 4), 1023);
        due("the image is of another", g.restore(), STATE);
        due("read", g.count(11), 2);
        due("where() was done", g.count(12), 1);
        write(g, "000000;01");
        due("all fallen", g.gallery(), 0);
    }

    private static void place() {
        promise = 6;
        LentGallery g = read("937059;99");
        g.tenant(CHAPEL, 1);
        g.tenant(COUPLE, 1);
        g.tenant(SCHOOL, 2);
        g.tenant(TENANT, 1);
        due("strong", g.place(0, 0), 9);
        due("fallen", g.place(3, 0), 0);
        due("weight", g.place(1, 1), 5);
        due("no weight", g.place(0, 1), 0);
        due("who", g.place(1, 2), 0b1011);
        due("nobody", g.place(5, 2), 0);
        due("less, no more than it is", g.place(1, 3), 3);
        due("less by weight and a fallen one", g.place(2, 3), 3);
        due("less by a fallen one", g.place(4, 3), 1);
        due("no less", g.place(5, 3), 0);
        due("fallen is no less", g.place(3, 3), 0);
        due("strong without knocks", g.place(3, 4), 1023);
        for (int p : new int[] {-1, 6, LOW, HIGH}) {
            due("place " + p, g.place(p, 0), UNKNOWN);
            due("UNKNOWN is first", g.place(p, 7), UNKNOWN);
        }
        for (int what : new int[] {-1, 6, LOW, HIGH}) {
            due("what " + what, g.place(0, what), OUTSIDE);
        }
        g.day();
        due("weight in a fallen place", g.place(1, 1), 5);
        due("who in a fallen place", g.place(1, 2), 0b1011);
        strongAndKnock();
    }

    private static void strongAndKnock() {
        LentGallery g = read("999999;99");
        g.tenant(SCHOOL, 0);
        due("KNOCK: 0 to 9 by 2 a day", g.place(0, 5), 2);
        due("KNOCK: 0 alone falls", g.place(5, 5), 1);
        g.knock(0, 2, true);
        due("more than 4", g.place(0, 4), 0b1111100000);
        due("KNOCK: 5 and 6, or 7 to 9", g.place(0, 5), 3);
        g.knock(0, 3, false);
        due("5 and 6: but now it is 9", g.place(0, 4), 0b1100000);
        due("one is left or both: of like ones the least", g.place(0, 5), 1);
        due("all knocks, of another place too: 0 falls on day 3, if 1 has fallen now", g.place(1, 4), 1);
        due("one alone: the first day", g.place(1, 5), 1);
        due("by no strength of 2", g.place(2, 4), 0);
        due("none", g.place(2, 5), NONE);
        g.forget();
        g.knock(1, 20, false);
        due("place 0 falls on day 5 at most, then place 1 is less by 1 each day", g.place(0, 4), 0b1111111111);
        due("place 1 falls behind 9 days, if it is 9 now", g.place(1, 4), 0b1111111111);
        g.forget();
        g.knock(1, 9, false);
        due("place 1 falls behind day 9, if place 0 has fallen now", g.place(0, 4), 1);
        g.forget();
        g.knock(0, 0, false);
        due("now", g.place(0, 4), 1);
        due("one alone: the first day", g.place(0, 5), 1);
        g.knock(0, 0, true);
        due("both cannot be", g.place(0, 4), 0);
        due("none", g.place(0, 5), NONE);
        LentGallery h = read("929999;99");
        h.tenant(TENANT, 1);
        h.knock(0, 9, true);
        due("place 1 falls on day 2, place 0 is less by 1 from day 3", h.place(0, 4), 0b1100000000);
        due("8 falls on day 10, 9 on day 11", h.place(0, 5), 10);
        g.forget();
        g.prop(3);
        g.prop(3);
        g.knock(3, 0, true);
        due("it is 15, but 0 to 9 are told", g.place(3, 4), 0b1111111110);
    }

    private static void prop() {
        promise = 7;
        LentGallery g = read("120000;11");
        due("prop", g.prop(0), 4);
        due("prop", g.prop(0), 7);
        due("fallen", g.prop(2), STATE);
        for (int want = 5; want <= 20; want += 3) {
            due("prop", g.prop(1), want);
        }
        due("above 20", g.prop(1), STATE);
        due("it stays", g.place(1, 0), 20);
        due("props", g.count(8), 8);
        for (int p : new int[] {-1, 6, LOW, HIGH}) {
            due("prop " + p, g.prop(p), UNKNOWN);
        }
        LentGallery h = read("900000;11");
        h.prop(0);
        h.prop(0);
        due("18", h.prop(0), 18);
        due("21 is above 20", h.prop(0), STATE);
    }

    private static void tenant() {
        promise = 8;
        LentGallery g = read("103333;99");
        due("kind", g.tenant(-1, 0), OUTSIDE);
        due("kind", g.tenant(5, 9), OUTSIDE);
        due("kind", g.tenant(LOW, 0), OUTSIDE);
        due("kind", g.tenant(HIGH, 0), OUTSIDE);
        due("place", g.tenant(0, -1), UNKNOWN);
        due("place", g.tenant(0, 6), UNKNOWN);
        due("place", g.tenant(0, LOW), UNKNOWN);
        due("place", g.tenant(0, HIGH), UNKNOWN);
        due("fallen", g.tenant(0, 1), STATE);
        for (int n = 0; n < 5; n++) {
            due("number", g.tenant(n, n == 0 ? 0 : 5), n);
        }
        due("full", g.tenant(0, 0), FULL);
        due("OUTSIDE ahead of FULL", g.tenant(9, 0), OUTSIDE);
        due("UNKNOWN ahead of FULL", g.tenant(0, 6), UNKNOWN);
        due("STATE ahead of FULL", g.tenant(0, 1), STATE);
        due("tenants", g.count(3), 5);
    }

    private static void about() {
        promise = 9;
        LentGallery g = read("999909;73");
        int[] weights = {1, 2, 0, 1, 4};
        int[] breaths = {1, 3, 1, 2, 3};
        for (int kind = 0; kind < 5; kind++) {
            g.tenant(kind, 3 - kind % 4);
        }
        for (int kind = 0; kind < 5; kind++) {
            due("kind", g.about(kind, 0), kind);
            due("place", g.about(kind, 1), 3 - kind % 4);
            due("weight", g.about(kind, 2), weights[kind]);
            due("breath", g.about(kind, 3), breaths[kind]);
            due("cut off", g.about(kind, 4), 0);
        }
        // air 7: the baker in 0 has 2, the couple in 1 has 1, the school in 2 has 3; in 3 the tenant has the last
        due("baker", g.about(3, 5), 0);
        due("couple", g.about(2, 5), 0);
        due("school", g.about(1, 5), 0);
        due("tenant, of one place by number", g.about(0, 5), 0);
        due("chapel", g.about(4, 5), 1);
        for (int t : new int[] {-1, 5, LOW, HIGH}) {
            due("tenant " + t, g.about(t, 0), UNKNOWN);
            due("UNKNOWN is first", g.about(t, 6), UNKNOWN);
        }
        for (int what : new int[] {-1, 6, LOW, HIGH}) {
            due("what " + what, g.about(0, what), OUTSIDE);
        }
        LentGallery h = read("909999;41");
        h.tenant(SCHOOL, 5);
        h.tenant(SCHOOL, 0);
        h.tenant(SCHOOL, 0);
        h.tenant(TENANT, 0);
        due("behind a fallen place", h.about(0, 4), 1);
        due("who is cut off gasps", h.about(0, 5), 1);
        due("ahead of it", h.about(1, 4), 0);
        due("enough", h.about(1, 5), 0);
        due("too little is left", h.about(2, 5), 1);
        due("who gasps takes nothing", h.about(3, 5), 0);
        LentGallery f = read("100000;91");
        f.tenant(TENANT, 0);
        f.day();
        due("in a fallen place one is cut off", f.about(0, 4), 1);
        due("his place", f.about(0, 1), 0);
        due("and gasps", f.about(0, 5), 1);
    }

    private static void as() {
        promise = 10;
        LentGallery g = read("999999;99");
        String[] such = {"0", "01", "02", "03", "014"};
        for (int kind = 0; kind < 5; kind++) {
            g.tenant(kind, 0);
        }
        for (int t = 0; t < 5; t++) {
            for (int kind = 0; kind < 5; kind++) {
                due("as(" + t + ", " + kind + ")", g.as(t, kind), such[t].indexOf('0' + kind) >= 0 ? t : NONE);
            }
        }
        for (int n : new int[] {-1, 5, LOW, HIGH}) {
            due("tenant " + n, g.as(n, 0), UNKNOWN);
            due("UNKNOWN is first", g.as(n, 5), UNKNOWN);
            due("kind " + n, g.as(0, n), OUTSIDE);
        }
    }

    private static void move() {
        promise = 11;
        LentGallery g = read("990991;99");
        g.tenant(SCHOOL, 0);
        g.tenant(CHAPEL, 3);
        due("move", g.move(0, 1), 0);
        due("he is there", g.about(0, 1), 1);
        due("his weight goes", g.place(0, 1), 0);
        due("his weight comes", g.place(1, 1), 2);
        due("the same place", g.move(0, 1), 1);
        due("its weight", g.place(1, 1), 2);
        due("fallen", g.move(0, 2), STATE);
        due("cut off", g.move(1, 0), STATE);
        due("cut off", g.move(1, 3), STATE);
        due("over a fallen place", g.move(0, 5), 1);
        due("now he is cut off", g.move(0, 0), STATE);
        for (int n : new int[] {-1, 6, LOW, HIGH}) {
            due("place " + n, g.move(0, n), UNKNOWN);
            due("tenant " + n, g.move(n, 0), UNKNOWN);
            due("tenant " + n, g.move(n, 2), UNKNOWN);
        }
        due("no such tenant", g.move(2, 0), UNKNOWN);
    }

    private static void day() {
        promise = 12;
        LentGallery g = read("432029;99");
        g.tenant(CHAPEL, 0);
        g.tenant(TENANT, 1);
        due("0 falls by its weight", g.day(), 1);
        int[] behind = {0, 2, 1, 0, 1, 9};
        for (int p = 0; p < 6; p++) {
            due("behind a day " + p, g.place(p, 0), behind[p]);
        }
        due("1, 2 and 4 fall: by a weight and one beside, by one beside", g.day(), 3);
        int[] then = {0, 0, 0, 0, 0, 9};
        for (int p = 0; p < 6; p++) {
            due("behind two days " + p, g.place(p, 0), then[p]);
        }
        due("a day", g.day(), 0);
        due("5 is less now", g.place(5, 0), 8);
        due("days", g.count(6), 3);
        due("falls", g.count(7), 4);
        LentGallery h = read("050000;11");
        h.day();
        due("two beside are as one", h.place(1, 0), 4);
    }

    private static void holds() {
        promise = 13;
        due("nobody, none fallen", read("111111;11").holds(), NONE);
        due("all fallen", read("000000;11").holds(), NONE);
        due("beside a fallen one", read("099999;11").holds(), 9);
        due("an even division", holdsOf("999999", SCHOOL, 0), 5);
        due("an even division", holdsOf("899999", SCHOOL, 0), 4);
        due("a couple weighs nothing", holdsOf("111111", COUPLE, 0), NONE);
        due("at once", holdsOf("144444", CHAPEL, 0), 1);
        LentGallery g = read("029999;11");
        for (int i = 0; i < 6; i++) {
            g.prop(1);
        }
        due("20 days", g.holds(), 20);
        due("nothing came of it", g.place(1, 0), 20);
        due("no day", g.count(6), 0);
    }

    private static int holdsOf(String strong, int kind, int place) {
        LentGallery g = read(strong + ";11");
        g.tenant(kind, place);
        return g.holds();
    }

    private static void where() {
        promise = 14;
        LentGallery g = read("345678;11");
        g.tenant(CHAPEL, 0);
        g.tenant(SCHOOL, 0);
        // chapel 4, school 2: two days by 5678 for the chapel (of like ones 2), then by 3 at least for the school
        due("hold", g.where(0), 2);
        due("the chapel", g.where(10), 2);
        due("the school", g.where(11), 0);
        due("no such", g.where(12), NONE);
        due("no such", g.where(14), NONE);
        for (int what : new int[] {-1, 1, 9, 15, LOW, HIGH}) {
            due("what " + what, g.where(what), OUTSIDE);
        }
        due("done", g.count(12), 5);
        due("nobody has moved", g.about(0, 1), 0);
        for (int i = 5; i < 12; i++) {
            due("where", g.where(0), 2);
        }
        due("twelve times", g.where(0), STATE);
        due("OUTSIDE is first", g.where(1), OUTSIDE);
        due("done", g.count(12), 12);
        write(g, "999999;11");
        g.gallery();
        due("twelve times of all", g.where(0), STATE);
        LentGallery c = read("999999;11");
        due("no tenants: none falls", c.where(0), NONE);
        due("no tenants", c.where(10), NONE);
        c.tenant(COUPLE, 3);
        due("a couple alone", c.where(0), NONE);
        due("is in the first place", c.where(10), 0);
        LentGallery f = read("100000;11");
        f.tenant(TENANT, 0);
        f.day();
        due("all have fallen", f.where(0), NONE);
        due("all have fallen", f.where(10), NONE);
        due("done", f.count(12), 2);
        LentGallery b = read("103999;11");
        b.tenant(TENANT, 0);
        b.tenant(TENANT, 5);
        due("0 falls at once", b.where(0), 1);
        due("so all are like: the first that stands", b.where(10), 0);
        due("so all are like: the first that stands", b.where(11), 0);
        LentGallery n = read("909009;11");
        n.tenant(TENANT, 5);
        due("one day less by a fallen one", n.where(0), 5);
        due("not in a fallen place", n.where(10), 0);
    }

    private static void props() {
        promise = 15;
        LentGallery g = read("904919;11");
        g.tenant(SCHOOL, 0);
        g.tenant(TENANT, 3);
        // 0 is less by 3 (9 now), 2 by 1 (4 now), 3 by 1 (9 now), 4 by 0, 5 by 0
        due("2 days", g.props(2, 0), 0);
        due("3 days: 0 must be above 9", g.props(3, 0), 1);
        due("in 0", g.props(3, 10), 1);
        due("in 2", g.props(3, 12), 0);
        due("4 days: 0 must be above 12, 2 above 4", g.props(4, 0), 3);
        due("in 0", g.props(4, 10), 2);
        due("in a fallen one", g.props(4, 11), 0);
        due("in 2", g.props(4, 12), 1);
        due("in 3", g.props(4, 13), 0);
        due("in 4", g.props(4, 14), 0);
        due("in 5", g.props(4, 15), 0);
        due("6 days: 18 are not above 18, 21 are too many", g.props(6, 0), NONE);
        due("none in any", g.props(6, 15), NONE);
        due("5 days: above 15", g.props(5, 10), 3);
        due("5 days: 0 by 3, 2 by 1", g.props(5, 0), 4);
        due("none was set", g.count(8), 0);
        for (int n : new int[] {0, -1, 21, LOW, HIGH}) {
            due("days " + n, g.props(n, 0), OUTSIDE);
        }
        for (int what : new int[] {-1, 1, 9, 16, LOW, HIGH}) {
            due("what " + what, g.props(5, what), OUTSIDE);
        }
        LentGallery s = read("209999;11");
        due("20 days: 20 strong is 20 less", s.props(20, 0), NONE);
        due("19 days: 20 strong, but 2 would be 21", s.props(19, 10), NONE);
        due("17 days: 18 strong", s.props(17, 12), 3);
        due("17 days", s.props(17, 0), 9);
        due("all fallen", read("000000;11").props(20, 0), 0);
        due("none is less", read("111111;11").props(20, 0), 0);
    }

    private static void out() {
        promise = 16;
        due("nobody", read("999999;11").out(), 0);
        due("from 0: to the shaft, then up", outOf("999999;11", 0), 2);
        due("from 5", outOf("999999;11", 5), 7);
        due("five by one", outOf("999999;11", 5, 5, 5, 5, 5), 11);
        due("five by two", outOf("999999;12", 5, 5, 5, 5, 5), 9);
        due("five by nine", outOf("999999;19", 5, 5, 5, 5, 5), 7);
        due("one goes up while others come", outOf("999999;11", 0, 1, 2), 4);
        due("they wait", outOf("999999;11", 0, 0, 0, 2), 5);
        due("behind a fallen place", outOf("990999;11", 3, 5), 0);
        due("who is not cut off goes", outOf("990999;11", 3, 1, 5), 3);
        LentGallery g = read("199999;11");
        g.tenant(TENANT, 0);
        g.tenant(TENANT, 4);
        due("both", g.out(), 6);
        g.day();
        due("all are cut off", g.out(), 0);
    }

    private static int outOf(String text, int... homes) {
        LentGallery g = read(text);
        for (int place : homes) {
            g.tenant(COUPLE, place);
        }
        return g.out();
    }

    private static void knock() {
        promise = 17;
        LentGallery g = read("909999;11");
        for (int p : new int[] {-1, 6, LOW, HIGH}) {
            due("place " + p, g.knock(p, 0, true), UNKNOWN);
            due("UNKNOWN is first", g.knock(p, 21, true), UNKNOWN);
        }
        for (int n : new int[] {-1, 21, LOW, HIGH}) {
            due("days " + n, g.knock(0, n, true), OUTSIDE);
        }
        due("at a fallen place", g.knock(1, 0, false), 1);
        due("20", g.knock(0, 20, false), 2);
        for (int n = 3; n <= 8; n++) {
            due("knock", g.knock(0, 0, true), n);
        }
        due("full", g.knock(0, 0, true), FULL);
        due("OUTSIDE ahead of FULL", g.knock(0, 21, true), OUTSIDE);
        due("UNKNOWN ahead of FULL", g.knock(6, 0, true), UNKNOWN);
        due("knocks", g.count(9), 8);
        due("1 to 9", g.place(0, 4), 0b1111111110);
        LentGallery h = read("999999;11");
        h.tenant(TENANT, 0);
        h.knock(0, 3, true);
        due("more than 3", h.place(0, 4), 0b1111110000);
        h.day();
        due("the knock is from now, whatever now is", h.place(0, 4), 0b1111110000);
        h.move(0, 1);
        due("without him it is less by none", h.place(0, 4), 0b1111111110);
    }

    private static void forget() {
        promise = 18;
        LentGallery g = read("999999;11");
        due("none", g.forget(), 0);
        g.knock(0, 0, false);
        g.knock(1, 3, true);
        due("bits", g.place(0, 4), 1);
        due("two", g.forget(), 2);
        due("none", g.forget(), 0);
        due("count", g.count(9), 0);
        due("bits", g.place(0, 4), 1023);
        due("from the start", g.knock(0, 0, true), 1);
    }

    private static void years() {
        promise = 19;
        LentGallery g = read("222222;11");
        due("no tenants", g.years(1, 0, 0), STATE);
        due("OUTSIDE is first", g.years(61, 0, 0), OUTSIDE);
        g.tenant(SCHOOL, 0);
        for (int n : new int[] {0, -1, 61, LOW, HIGH}) {
            due("days " + n, g.years(n, 0, 0), OUTSIDE);
        }
        due("seed", g.years(1, -1, 0), OUTSIDE);
        due("seed", g.years(1, LOW, 0), OUTSIDE);
        for (int what : new int[] {-1, 3, LOW, HIGH}) {
            due("what " + what, g.years(1, 0, what), OUTSIDE);
        }
        // by seed 0: 12345, then 1406932606, which by 65536 is 21468: place 0; the school stays there and it falls
        due("the seed of two draws", g.years(1, 0, 2), 1406932606);
        due("falls", g.years(1, 0, 0), 1);
        due("he is cut off, so he gasps", g.years(1, 0, 1), 1);
        due("by the greatest seed", g.years(1, HIGH, 2), seedBehind(2, HIGH));
        due("60 days", g.years(60, 7, 2), seedBehind(120, 7));
        due("all fall in the end", g.years(60, 7, 0), 6);
        due("nothing came of it", g.place(0, 0), 2);
        due("nor a day", g.count(6), 0);
        due("nor a fall", g.count(7), 0);
        due("nor a move", g.about(0, 1), 0);
        LentGallery w = read("999919;11");
        w.tenant(TENANT, 0);
        // by seed 1: 16838 is the draw of the tenant, then 5758 that of the place: 4
        due("he moves ahead of the day", w.years(1, 1, 0), 1);
        LentGallery c = read("111111;11");
        c.tenant(COUPLE, 0);
        c.tenant(COUPLE, 0);
        due("couples bring nothing down", c.years(60, 5, 0), 0);
        due("air for one", c.years(60, 5, 1), 1);
    }

    private static long seedBehind(int draws, long seed) {
        long next = seed;
        for (int i = 0; i < draws; i++) {
            next = (next * 1103515245L + 12345L) & 0x7fffffffL;
        }
        return next;
    }

    private static void image() {
        promise = 20;
        LentGallery g = read("199999;11");
        due("at first", g.image(), 0);
        g.tenant(TENANT, 0);
        g.day();
        due("behind a day", g.image(), 1);
        g.day();
        due("the latest", g.restore(), 1);
        due("who was there stays", g.count(3), 1);
    }

    private static void restore() {
        promise = 21;
        LentGallery g = read("159999;73");
        due("none was kept", g.restore(), STATE);
        g.tenant(TENANT, 1);
        g.tenant(BAKER, 1);
        g.prop(1);
        g.knock(0, 1, true);
        g.day();
        g.image();
        long kept = g.digest();
        g.tenant(CHAPEL, 0);
        g.move(0, 5);
        g.day();
        g.prop(2);
        g.knock(2, 2, false);
        g.knock(2, 3, false);
        due("restore", g.restore(), 1);
        due("all is as it was", g.digest(), kept);
        due("who came since is gone", g.about(2, 0), UNKNOWN);
        due("his place", g.about(0, 1), 1);
        due("weight", g.place(1, 1), 2);
        due("strong", g.place(0, 0), 1);
        due("props", g.count(8), 1);
        due("knocks", g.count(9), 1);
        due("a new one takes the number", g.tenant(COUPLE, 1), 2);
        due("and is of his own kind", g.about(2, 0), COUPLE);
        g.forget();
        g.knock(1, 0, false);
        due("again", g.restore(), 1);
        due("all is as it was", g.digest(), kept);
        g.where(0);
        write(g, "12");
        g.restore();
        due("the page stays", g.count(10), 2);
        due("where() was done", g.count(12), 1);
        due("no gallery is read by this page", g.gallery(), STATE);
        due("so the image stays", g.restore(), 1);
        write(g, "3456;11");
        g.gallery();
        due("another gallery", g.restore(), STATE);
        due("an image of that", g.image(), 0);
        due("restore", g.restore(), 0);
        due("its strength", g.place(5, 0), 6);
        knocksOfTheImage();
    }

    private static void knocksOfTheImage() {
        LentGallery g = read("999999;11");
        g.tenant(SCHOOL, 0);
        g.knock(0, 3, true);
        g.image();
        g.forget();
        g.knock(0, 1, true);
        g.restore();
        due("behind how many days", g.place(0, 4), 0b1110000000);
        g.forget();
        g.knock(0, 3, false);
        g.restore();
        due("that it stood", g.place(0, 4), 0b1110000000);
        g.forget();
        g.knock(1, 3, true);
        g.restore();
        due("at which place", g.place(0, 4), 0b1110000000);
    }

    private static void count() {
        promise = 22;
        LentGallery g = read("990919;42");
        g.tenant(SCHOOL, 0);
        g.tenant(SCHOOL, 1);
        g.tenant(TENANT, 4);
        g.prop(0);
        g.prop(0);
        g.knock(0, 0, true);
        g.knock(0, 1, true);
        g.knock(0, 2, true);
        g.day();
        write(g, "abc");
        g.where(0);
        g.where(10);
        int[] want = {4, 4, 2, 3, 1, 2, 1, 1, 2, 3, 3, 1, 2};
        for (int what = 0; what <= 12; what++) {
            due("count(" + what + ")", g.count(what), want[what]);
        }
        for (int what : new int[] {-1, 13, LOW, HIGH}) {
            due("count(" + what + ")", g.count(what), OUTSIDE);
        }
    }

    private static void digest() {
        promise = 23;
        LentGallery g = new LentGallery();
        due("nothing", g.digest(), digestByCalls(g, ""));
        g.letter('x');
        due("a letter", g.digest(), digestByCalls(g, "x"));
        g.blank();
        write(g, "975806;52");
        g.gallery();
        due("a gallery", g.digest(), digestByCalls(g, ""));
        g.tenant(SCHOOL, 1);
        g.tenant(CHAPEL, 5);
        g.knock(1, 2, true);
        write(g, "12;");
        due("tenants", g.digest(), digestByCalls(g, "12;"));
        g.day();
        due("a day", g.digest(), digestByCalls(g, "12;"));
        due("it changes nothing", g.digest(), g.digest());
    }

    private static long digestByCalls(LentGallery g, String page) {
        long h = 919;
        boolean open = g.count(2) > 0;
        for (int i = 0; i < 36 && open; i++) {
            h = 31 * h + g.place(i / 6, i % 6);
        }
        for (int i = 0; i < 6 * g.count(3); i++) {
            h = 31 * h + g.about(i / 6, i % 6);
        }
        if (open) {
            h = 31 * (31 * h + g.holds()) + g.out();
            h = 31 * h + g.props(5, 0);
            for (int what = 10; what <= 15; what++) {
                h = 31 * h + g.props(5, what);
            }
        }
        for (char c : page.toCharArray()) {
            h = 31 * h + c;
        }
        for (int what = 0; what <= 12; what++) {
            h = 31 * h + g.count(what);
        }
        return h;
    }

    /** Refusals change nothing. */
    private static void nothingByRefusals() {
        promise = 0;
        LentGallery g = read("909999;42");
        g.tenant(SCHOOL, 0);
        g.tenant(SCHOOL, 3);
        write(g, "1x");
        long ahead = g.digest();
        g.letter(0);
        g.gallery();
        g.place(6, 0);
        g.place(0, 6);
        g.prop(1);
        g.prop(7);
        g.tenant(5, 0);
        g.tenant(0, 6);
        g.tenant(0, 1);
        g.about(2, 0);
        g.about(0, 9);
        g.as(2, 0);
        g.as(0, 9);
        g.move(0, 1);
        g.move(1, 0);
        g.move(0, 6);
        g.where(5);
        g.props(0, 0);
        g.props(5, 5);
        g.knock(6, 0, true);
        g.knock(0, 21, true);
        g.years(0, 0, 0);
        g.restore();
        g.count(13);
        due("digest", g.digest(), ahead);
    }

    private static void noCallThrows() {
        promise = 0;
        int[] odd = {LOW, -1000000007, -101, -2, -1, 0, 1, 2, 3, 4, 5, 6, 7, 10, 13, 14, 15, 16, 20, 21, 60, 61, 127, HIGH - 1, HIGH};
        for (String text : new String[] {"", "000000;01", "999999;99", "102030;51"}) {
            LentGallery g = read(text);
            for (int a : odd) {
                for (int b : odd) {
                    g.letter(a);
                    g.place(a, b);
                    g.prop(a);
                    g.tenant(a, b);
                    g.about(a, b);
                    g.as(a, b);
                    g.move(a, b);
                    g.where(a);
                    g.props(a, b);
                    g.knock(a, b, true);
                    g.years(a, b, 1);
                    g.years(20, a, b);
                    g.count(a);
                    g.day();
                    g.image();
                    g.digest();
                }
            }
        }
    }
}
