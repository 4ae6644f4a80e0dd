import java.math.BigInteger;

/** Boundary cases of "knocks": promises 17 to 19, and the sentences ahead of them that they rest on. */
public final class KnockBoundaryTests extends Boundaries {
    private static final BigInteger TIMES = BigInteger.valueOf(1103515245);
    private static final BigInteger MORE = BigInteger.valueOf(12345);
    private static final BigInteger ROUND = BigInteger.TWO.pow(31);

    public static void main(String[] args) {
        runAll(KnockBoundaryTests.class, 17, 19);
    }

    // ---- promise 17: knock

    @Says("UNKNOWN: place")
    static void promise17_knock_thereIsNoSuchPlace() {
        LentGallery g = read("999999;11");
        for (int p : new int[] {-1, 6, LOW, HIGH}) {
            refuses(g, "knock(" + p + ", 0, true)", () -> g.knock(p, 0, true), UNKNOWN);
        }
        LentGallery none = new LentGallery();
        refuses(none, "knock(0, 0, true) without a gallery", () -> none.knock(0, 0, true), UNKNOWN);
    }

    @Says("OUTSIDE: days (0 to 20)")
    static void promise17_knock_daysAreOutside() {
        LentGallery g = read("999999;11");
        for (int n : new int[] {-1, 21, LOW, HIGH}) {
            refuses(g, "knock(0, " + n + ", true)", () -> g.knock(0, n, true), OUTSIDE);
            refuses(g, "knock(0, " + n + ", false)", () -> g.knock(0, n, false), OUTSIDE);
        }
    }

    @Says("behind so many DAYS from now (0 to 20; 0 is now)")
    static void promise17_knock_now() {
        LentGallery g = read("999999;11");
        g.tenant(CHAPEL, 0);
        due("knock(0, 0, true)", g.knock(0, 0, true), 1);
        due("it stood now: 1 to 9", g.place(0, 4), 0b1111111110);
        g.forget();
        g.knock(0, 1, true);
        due("it stood behind a day: 5 to 9", g.place(0, 4), 0b1111100000);
    }

    @Says("behind so many DAYS from now (0 to 20; 0 is now)")
    static void promise17_knock_behindTwentyDays() {
        LentGallery g = read("999999;11");
        g.prop(0);
        g.tenant(TENANT, 0);
        due("knock(1, 20, true)", g.knock(1, 20, true), 1);
        due("place 0 falls on day 12, then place 1 of 9 on day 21", g.place(1, 4), 512);
        g.forget();
        g.knock(1, 20, false);
        due("of 8 on day 20, and so on", g.place(1, 4), 511);
    }

    @Says("behind so many DAYS from now (0 to 20; 0 is now)")
    static void promise17_knock_onTheDayOfTheFall() {
        LentGallery g = read("999999;11");
        g.tenant(TENANT, 0);
        g.knock(0, 5, false);
        due("behind 5 days 5 has fallen", g.place(0, 4), 0b111111);
        g.forget();
        g.knock(0, 5, true);
        due("and 6 stands", g.place(0, 4), 0b1111000000);
    }

    /** The document tells knocks "from now": taken as of the time of the question, also behind a day. */
    @Says("behind so many DAYS from now")
    static void promise17_knock_fromNowBehindADay() {
        LentGallery g = read("999999;11");
        g.tenant(TENANT, 0);
        g.knock(0, 3, true);
        due("place(0, 4)", g.place(0, 4), 0b1111110000);
        g.day();
        due("place(0, 4) behind a day", g.place(0, 4), 0b1111110000);
    }

    @Says("KNOCKS (8 at most)")
    static void promise17_knock_theEighthAndTheNinth() {
        LentGallery g = read("999999;11");
        for (int n = 1; n <= 7; n++) {
            due("knock " + n, g.knock(0, 0, true), n);
        }
        due("place(0, 4)", g.place(0, 4), 0b1111111110);
        due("knock 8", g.knock(0, 0, false), 8);
        due("the eighth counts", g.place(0, 4), 0);
        refuses(g, "a ninth", () -> g.knock(0, 0, true), FULL);
        due("count(9)", g.count(9), 8);
    }

    @Says("UNKNOWN: place; OUTSIDE: days (0 to 20); FULL.")
    static void promise17_knock_theFirstRefusal() {
        LentGallery g = read("999999;11");
        refuses(g, "knock(6, 21, true)", () -> g.knock(6, 21, true), UNKNOWN);
        refuses(g, "knock(-1, -1, true)", () -> g.knock(-1, -1, true), UNKNOWN);
        for (int n = 0; n < 8; n++) {
            g.knock(5, 20, true);
        }
        refuses(g, "knock(6, 0, true)", () -> g.knock(6, 0, true), UNKNOWN);
        refuses(g, "knock(0, 21, true)", () -> g.knock(0, 21, true), OUTSIDE);
        refuses(g, "knock(0, 20, true)", () -> g.knock(0, 20, true), FULL);
    }

    @Says("a PLACE stood, or had FALLEN")
    static void promise17_knock_atAFallenPlace() {
        LentGallery g = read("909999;11");
        due("that it stood", g.knock(1, 0, true), 1);
        due("though it has not", g.place(1, 4), 0b1111111110);
        due("by no strength of another", g.place(5, 4), 0);
    }

    @Says("a PLACE stood, or had FALLEN")
    static void promise17_knock_changesNoPlace() {
        LentGallery g = read("999999;11");
        g.knock(0, 0, false);
        dueStrong(g, 9, 9, 9, 9, 9, 9);
        due("holds()", g.holds(), NONE);
    }

    // ---- promise 18: forget

    @Says("All KNOCKS are gone: how many there were.")
    static void promise18_forget_none() {
        due("without a gallery", new LentGallery().forget(), 0);
        LentGallery g = read("999999;11");
        due("without knocks", g.forget(), 0);
        due("again", g.forget(), 0);
    }

    @Says("All KNOCKS are gone: how many there were.")
    static void promise18_forget_eight() {
        LentGallery g = read("999999;11");
        for (int n = 0; n < 8; n++) {
            g.knock(0, 0, false);
        }
        due("forget()", g.forget(), 8);
        due("count(9)", g.count(9), 0);
        due("place(0, 4)", g.place(0, 4), 1023);
        due("again", g.forget(), 0);
    }

    @Says("All KNOCKS are gone: how many there were.")
    static void promise18_forget_thenKnockAgain() {
        LentGallery g = read("999999;11");
        for (int n = 0; n < 8; n++) {
            g.knock(0, 0, false);
        }
        g.forget();
        due("knock", g.knock(0, 0, true), 1);
        due("the old ones do not come back", g.place(0, 4), 0b1111111110);
    }

    // ---- promise 19: years

    @Says("OUTSIDE: days (1 to 60)")
    static void promise19_years_daysAreOutside() {
        LentGallery g = withCouple();
        for (int n : new int[] {0, -1, 61, LOW, HIGH}) {
            refuses(g, "years(" + n + ", 0, 0)", () -> g.years(n, 0, 0), OUTSIDE);
            refuses(g, "years(" + n + ", 0, 2)", () -> g.years(n, 0, 2), OUTSIDE);
        }
    }

    @Says("OUTSIDE: days (1 to 60)")
    static void promise19_years_theLeastAndTheMostDays() {
        LentGallery g = withCouple();
        due("years(1, 5, 2)", g.years(1, 5, 2), seedBehind(2, 5));
        due("years(60, 5, 2)", g.years(60, 5, 2), seedBehind(120, 5));
    }

    @Says("so many DAYS")
    static void promise19_years_theLastDayIsLived() {
        LentGallery g = read("290000;91");
        propTimes(g, 0, 6);
        g.tenant(COUPLE, 0);
        due("place 1 falls on day 9", g.years(8, 3, 0), 0);
        due("place 1 falls on day 9", g.years(9, 3, 0), 1);
        LentGallery two = read("220000;91");
        propTimes(two, 0, 6);
        propTimes(two, 1, 6);
        two.tenant(COUPLE, 0);
        due("place 1 falls on day 20", two.years(20, 3, 0), 1);
        due("place 0 stands behind 39 days", two.years(39, 3, 0), 1);
        due("place 0 falls on day 40", two.years(40, 3, 0), 2);
        due("and 60 days", two.years(60, 3, 0), 2);
    }

    @Says("seed (0 at least)")
    static void promise19_years_seedIsOutside() {
        LentGallery g = withCouple();
        for (int seed : new int[] {-1, -2, LOW}) {
            for (int what = 0; what <= 2; what++) {
                int asked = what;
                refuses(g, "years(1, " + seed + ", " + what + ")", () -> g.years(1, seed, asked), OUTSIDE);
            }
        }
    }

    @Says("seed (0 at least)")
    static void promise19_years_theLeastAndTheGreatestSeed() {
        LentGallery g = withCouple();
        for (int seed : new int[] {0, 1, HIGH - 1, HIGH}) {
            due("years(1, " + seed + ", 2)", g.years(1, seed, 2), seedBehind(2, seed));
            due("years(7, " + seed + ", 2)", g.years(7, seed, 2), seedBehind(14, seed));
        }
    }

    @Says("1103515245 times it and 12345, its rest by 2 to the 31")
    static void promise19_years_theSeedWrapsAround() {
        LentGallery g = withCouple();
        // 0 gives 12345; 1103515245 * 12345 + 12345 is 13622895711870, whose rest by 2147483648 is 1406932606 - reckoned by hand
        due("years(1, 0, 2)", g.years(1, 0, 2), 1406932606);
        for (int seed = 1; seed < 2000000000; seed += 99999989) {
            due("years(3, " + seed + ", 2)", g.years(3, seed, 2), seedBehind(6, seed));
        }
    }

    @Says("what = 0 how many FALL, 1 how many GASP, 2 the SEED then.")
    static void promise19_years_whatIsOutside() {
        LentGallery g = withCouple();
        for (int what : new int[] {-1, 3, LOW, HIGH}) {
            refuses(g, "years(1, 0, " + what + ")", () -> g.years(1, 0, what), OUTSIDE);
        }
    }

    @Says("STATE: there are no TENANTS.")
    static void promise19_years_withoutTenants() {
        LentGallery none = new LentGallery();
        refuses(none, "years(1, 0, 0) without a gallery", () -> none.years(1, 0, 0), STATE);
        LentGallery g = read("999999;11");
        for (int what = 0; what <= 2; what++) {
            int asked = what;
            refuses(g, "years(1, 0, " + what + ")", () -> g.years(1, 0, asked), STATE);
        }
        g.tenant(COUPLE, 0);
        due("with one", g.years(1, 0, 0), 0);
    }

    @Says("OUTSIDE: days (1 to 60), seed (0 at least), what; STATE: there are no TENANTS.")
    static void promise19_years_outsideAheadOfState() {
        LentGallery g = read("999999;11");
        refuses(g, "years(0, 0, 0)", () -> g.years(0, 0, 0), OUTSIDE);
        refuses(g, "years(61, 0, 0)", () -> g.years(61, 0, 0), OUTSIDE);
        refuses(g, "years(1, -1, 0)", () -> g.years(1, -1, 0), OUTSIDE);
        refuses(g, "years(1, 0, 3)", () -> g.years(1, 0, 3), OUTSIDE);
    }

    @Says("ahead of each DAY a TENANT by a DRAW of how many there are moves to the PLACE by a DRAW of 6")
    static void promise19_years_heMovesAheadOfTheDay() {
        for (int p = 0; p < 6; p++) {
            LentGallery g = read("111111;91");
            g.tenant(TENANT, p == 0 ? 1 : 0);
            due("to place " + p + ": it falls alone", g.years(1, seedFor(1, 0, p), 0), 1);
            LentGallery strong = read("111111;91");
            strong.prop(p);
            strong.tenant(TENANT, p == 0 ? 1 : 0);
            due("to place " + p + ", which is stronger: none falls", strong.years(1, seedFor(1, 0, p), 0), 0);
        }
    }

    @Says("a TENANT by a DRAW of how many there are moves to the PLACE by a DRAW of 6")
    static void promise19_years_whoMoves() {
        for (int count = 1; count <= 5; count++) {
            for (int t = 0; t < count; t++) {
                LentGallery g = read("999991;91");
                for (int i = 0; i < count; i++) {
                    g.tenant(i == t ? TENANT : COUPLE, 0);
                }
                due("tenant " + t + " of " + count + " goes to 5", g.years(1, seedFor(count, t, 5), 0), 1);
                if (count > 1) {
                    int another = (t + 1) % count;
                    due("tenant " + another + " does", g.years(1, seedFor(count, another, 5), 0), 0);
                }
            }
        }
    }

    @Says("if it has not FALLEN, and he is not CUT OFF")
    static void promise19_years_notToAFallenPlace() {
        LentGallery g = read("209999;91");
        g.tenant(TENANT, 0);
        due("he stays: 2 by 2", g.years(1, seedFor(1, 0, 1), 0), 1);
        due("he goes: 2 by 1", g.years(1, seedFor(1, 0, 5), 0), 0);
    }

    @Says("if it has not FALLEN, and he is not CUT OFF")
    static void promise19_years_notWhoIsCutOff() {
        LentGallery g = read("099199;91");
        g.tenant(TENANT, 3);
        due("he stays, and 3 falls", g.years(1, seedFor(1, 0, 5), 0), 1);
        due("he gasps", g.years(1, seedFor(1, 0, 5), 1), 1);
    }

    @Says("DRAWS: the next SEED each time")
    static void promise19_years_drawsGoOnThoughHeStays() {
        LentGallery g = read("099999;91");
        g.tenant(COUPLE, 3);
        due("years(4, 77, 2)", g.years(4, 77, 2), seedBehind(8, 77));
    }

    @Says("how many PLACES FALL, how many GASP then")
    static void promise19_years_noneAndAll() {
        LentGallery g = read("111111;51");
        fillWith(g, COUPLE, 0);
        due("none falls", g.years(60, 9, 0), 0);
        due("none gasps", g.years(60, 9, 1), 0);
        LentGallery all = read("111110;91");
        fillWith(all, CHAPEL, 0);
        due("five fall; one had fallen", all.years(60, 9, 0), 5);
        due("all gasp", all.years(60, 9, 1), 5);
    }

    @Says("how many GASP then")
    static void promise19_years_gaspBehindTheLastDay() {
        LentGallery g = read("919999;91");
        g.tenant(TENANT, 0);
        due("he is in 1 when it falls", g.years(1, seedFor(1, 0, 1), 1), 1);
        due("he is in 0", g.years(1, seedFor(1, 0, 0), 1), 0);
    }

    @Says("YEARS by a SEED, as they would be")
    static void promise19_years_changesNothing() {
        LentGallery g = read("111111;11");
        g.tenant(CHAPEL, 0);
        g.tenant(SCHOOL, 5);
        g.knock(0, 1, false);
        long ahead = g.digest();
        due("years(60, 1, 0)", g.years(60, 1, 0), 6);
        due("digest()", g.digest(), ahead);
        due("years(60, 1, 0) again", g.years(60, 1, 0), 6);
        due("about(0, 1)", g.about(0, 1), 0);
    }

    private static LentGallery withCouple() {
        LentGallery g = read("999999;11");
        g.tenant(COUPLE, 0);
        return g;
    }

    private static BigInteger next(BigInteger seed) {
        return TIMES.multiply(seed).add(MORE).mod(ROUND);
    }

    private static int seedBehind(int draws, int seed) {
        BigInteger s = BigInteger.valueOf(seed);
        for (int i = 0; i < draws; i++) {
            s = next(s);
        }
        return s.intValueExact();
    }

    private static int draw(BigInteger seed, int of) {
        return seed.divide(BigInteger.valueOf(65536)).mod(BigInteger.valueOf(of)).intValueExact();
    }

    /** The least seed by which, of so many, this tenant is drawn first, and then this place. */
    private static int seedFor(int count, int tenant, int place) {
        for (int seed = 0; seed < 100000; seed++) {
            BigInteger first = next(BigInteger.valueOf(seed));
            if (draw(first, count) == tenant && draw(next(first), 6) == place) {
                return seed;
            }
        }
        return -1;
    }
}
