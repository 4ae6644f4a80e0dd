/** Boundary cases of "the gallery": promises 1 to 7, and the sentences ahead of them that they rest on. */
public final class GalleryBoundaryTests extends Boundaries {
    private static final String GOOD = "012345;09";

    public static void main(String[] args) {
        runAll(GalleryBoundaryTests.class, 1, 7);
    }

    // ---- promise 1: a new object

    @Says("No GALLERY.")
    static void promise01_newObject_hasNoGallery() {
        LentGallery g = new LentGallery();
        refuses(g, "place(0, 0)", () -> g.place(0, 0), UNKNOWN);
        refuses(g, "prop(0)", () -> g.prop(0), UNKNOWN);
        refuses(g, "tenant(0, 0)", () -> g.tenant(0, 0), UNKNOWN);
        refuses(g, "knock(0, 0, true)", () -> g.knock(0, 0, true), UNKNOWN);
        refuses(g, "day()", g::day, STATE);
        refuses(g, "holds()", g::holds, STATE);
        refuses(g, "where(0)", () -> g.where(0), STATE);
        refuses(g, "props(1, 0)", () -> g.props(1, 0), STATE);
        refuses(g, "out()", g::out, STATE);
        refuses(g, "image()", g::image, STATE);
        refuses(g, "restore()", g::restore, STATE);
    }

    @Says("At first there is none.")
    static void promise01_newObject_hasNoTenants() {
        LentGallery g = new LentGallery();
        refuses(g, "about(0, 0)", () -> g.about(0, 0), UNKNOWN);
        refuses(g, "as(0, 0)", () -> g.as(0, 0), UNKNOWN);
        refuses(g, "move(0, 0)", () -> g.move(0, 0), UNKNOWN);
        refuses(g, "years(1, 0, 0)", () -> g.years(1, 0, 0), STATE);
    }

    @Says("No GALLERY.")
    static void promise01_newObject_countsNothing() {
        LentGallery g = new LentGallery();
        for (int what = 0; what <= 12; what++) {
            due("count(" + what + ")", g.count(what), 0);
        }
    }

    @Says("No GALLERY.")
    static void promise01_newObject_isNotAnother() {
        LentGallery one = read("999999;99");
        one.tenant(TENANT, 0);
        write(one, "12");
        LentGallery two = new LentGallery();
        due("count(2) of a second", two.count(2), 0);
        due("count(3) of a second", two.count(3), 0);
        due("count(10) of a second", two.count(10), 0);
        write(two, "111111;11");
        two.gallery();
        due("place(0, 0) of the first", one.place(0, 0), 9);
        due("count(10) of the first", one.count(10), 2);
    }

    @Says("public static final int NONE = -1, UNKNOWN = -101, OUTSIDE = -102, STATE = -103, FULL = -104;")
    static void promise01_newObject_constants() {
        due("NONE", LentGallery.NONE, -1);
        due("UNKNOWN", LentGallery.UNKNOWN, -101);
        due("OUTSIDE", LentGallery.OUTSIDE, -102);
        due("STATE", LentGallery.STATE, -103);
        due("FULL", LentGallery.FULL, -104);
    }

    // ---- promise 2: letter

    @Says("OUTSIDE: code (1 to 126)")
    static void promise02_letter_codeTooSmall() {
        LentGallery g = page("9");
        for (int code : new int[] {0, -1, -48, LOW}) {
            refuses(g, "letter(" + code + ")", () -> g.letter(code), OUTSIDE);
        }
    }

    @Says("OUTSIDE: code (1 to 126)")
    static void promise02_letter_codeTooLarge() {
        LentGallery g = page("9");
        for (int code : new int[] {127, 128, 256 + '9', 65536 + '9', HIGH}) {
            refuses(g, "letter(" + code + ")", () -> g.letter(code), OUTSIDE);
        }
    }

    @Says("OUTSIDE: code (1 to 126)")
    static void promise02_letter_leastAndGreatestCode() {
        LentGallery g = new LentGallery();
        due("letter(1)", g.letter(1), 1);
        due("letter(126)", g.letter(126), 2);
    }

    @Says("how many THE PAGE has")
    static void promise02_letter_countsFromOneToTwelve() {
        LentGallery g = new LentGallery();
        for (int n = 1; n <= 12; n++) {
            due("letter " + n, g.letter(n), n);
        }
    }

    @Says("FULL: above 12.")
    static void promise02_letter_theThirteenth() {
        LentGallery g = page("123456789012");
        refuses(g, "a thirteenth", () -> g.letter('3'), FULL);
        due("count(10)", g.count(10), 12);
    }

    @Says("Refusals, of several the first as told by each call")
    static void promise02_letter_outsideAheadOfFull() {
        LentGallery g = page("123456789012");
        refuses(g, "letter(0)", () -> g.letter(0), OUTSIDE);
        refuses(g, "letter(127)", () -> g.letter(127), OUTSIDE);
    }

    @Says("A letter comes behind THE PAGE")
    static void promise02_letter_comesBehind() {
        LentGallery g = page("12345");
        g.letter(';');
        due("fault()", g.fault(), 5);
        g.blank();
        write(g, ";12345");
        due("fault()", g.fault(), 0);
    }

    @Says("FULL: above 12.")
    static void promise02_letter_aFullPageThatIsBlankTakesMore() {
        LentGallery g = page("xxxxxxxxxxxx");
        g.blank();
        due("letter", g.letter('1'), 1);
    }

    // ---- promise 3: blank

    @Says("THE PAGE is empty: how many letters it had.")
    static void promise03_blank_anEmptyPage() {
        LentGallery g = new LentGallery();
        due("blank()", g.blank(), 0);
        due("blank() again", g.blank(), 0);
    }

    @Says("THE PAGE is empty: how many letters it had.")
    static void promise03_blank_aFullPage() {
        LentGallery g = page("123456789012");
        due("blank()", g.blank(), 12);
        due("count(10)", g.count(10), 0);
        due("blank() again", g.blank(), 0);
    }

    @Says("THE PAGE is empty: how many letters it had.")
    static void promise03_blank_oldLettersDoNotComeBack() {
        LentGallery g = page(GOOD);
        g.blank();
        due("fault()", g.fault(), 0);
        due("gallery()", g.gallery(), STATE);
        write(g, "0");
        due("fault()", g.fault(), 1);
        due("gallery()", g.gallery(), STATE);
    }

    @Says("THE PAGE is empty: how many letters it had.")
    static void promise03_blank_leavesTheGallery() {
        LentGallery g = read("123456;78");
        g.tenant(SCHOOL, 2);
        g.blank();
        dueStrong(g, 1, 2, 3, 4, 5, 6);
        due("count(3)", g.count(3), 1);
    }

    // ---- promise 4: fault

    @Says("how many letters it has, if there is none.")
    static void promise04_fault_anEmptyPage() {
        due("fault()", new LentGallery().fault(), 0);
    }

    @Says("how many letters it has, if there is none.")
    static void promise04_fault_everyBeginning() {
        for (int n = 1; n <= 9; n++) {
            due("fault() of " + n, page(GOOD.substring(0, n)).fault(), n);
        }
    }

    @Says("The place (from 0) of the first letter of THE PAGE that no GALLERY has there")
    static void promise04_fault_atEveryPlace() {
        for (int at = 0; at < 9; at++) {
            for (String bad : new String[] {"x", "/", "-", " ", at == 6 ? "5" : ";"}) {
                String text = GOOD.substring(0, at) + bad + GOOD.substring(at + 1);
                due("fault() of " + text, page(text).fault(), at);
            }
        }
    }

    @Says("The place (from 0) of the first letter of THE PAGE that no GALLERY has there")
    static void promise04_fault_theFirstOfSeveral() {
        due("fault()", page("01x3y5z").fault(), 2);
        due("fault()", page("xxxxxxxxxxxx").fault(), 0);
    }

    @Says("behind those ahead of it")
    static void promise04_fault_aTenthLetter() {
        due("fault() of ten", page(GOOD + "1").fault(), 9);
        due("fault() of ten", page(GOOD + ";").fault(), 9);
        due("fault() of twelve", page(GOOD + "123").fault(), 9);
    }

    @Says("six digits, how STRONG PLACES 0 to 5 are (0: it has FALLEN)")
    static void promise04_fault_digitsOfPlaces() {
        due("all 0", page("000000").fault(), 6);
        due("all 9", page("999999").fault(), 6);
        for (int at = 0; at < 6; at++) {
            due("the sign ahead of 0", page("555555".substring(0, at) + "/").fault(), at);
            due("the sign behind 9", page("555555".substring(0, at) + ":").fault(), at);
        }
    }

    @Says("then \";\"")
    static void promise04_fault_theSemicolon() {
        due(";", page("555555;").fault(), 7);
        due("the sign ahead of it", page("555555:").fault(), 6);
        due("the sign behind it", page("555555<").fault(), 6);
        due("a seventh digit", page("5555555").fault(), 6);
        due("; too soon", page("55555;").fault(), 5);
    }

    @Says("a digit AIR (0 to 9)")
    static void promise04_fault_air() {
        due("0", page("555555;0").fault(), 8);
        due("9", page("555555;9").fault(), 8);
        due("the sign ahead of 0", page("555555;/").fault(), 7);
        due("the sign behind 9", page("555555;:").fault(), 7);
    }

    @Says("a digit CAGE (1 to 9)")
    static void promise04_fault_cage() {
        due("1", page("555555;51").fault(), 9);
        due("9", page("555555;59").fault(), 9);
        due("0", page("555555;50").fault(), 8);
        due("the sign behind 9", page("555555;5:").fault(), 8);
    }

    @Says("The place (from 0) of the first letter of THE PAGE that no GALLERY has there")
    static void promise04_fault_changesNothing() {
        LentGallery g = page("12x");
        long ahead = g.digest();
        g.fault();
        due("digest()", g.digest(), ahead);
    }

    // ---- promise 5: gallery

    @Says("STATE: it is none.")
    static void promise05_gallery_ofAnEmptyPage() {
        LentGallery g = new LentGallery();
        refuses(g, "gallery()", g::gallery, STATE);
    }

    @Says("STATE: it is none.")
    static void promise05_gallery_ofTooFewLetters() {
        for (int n = 1; n < 9; n++) {
            LentGallery g = page(GOOD.substring(0, n));
            refuses(g, "gallery() of " + n, g::gallery, STATE);
            due("count(10)", g.count(10), n);
        }
    }

    @Says("STATE: it is none.")
    static void promise05_gallery_ofTooManyLetters() {
        for (String more : new String[] {"1", ";", "12", "123"}) {
            LentGallery g = page(GOOD + more);
            refuses(g, "gallery() of " + GOOD + more, g::gallery, STATE);
        }
    }

    @Says("STATE: it is none.")
    static void promise05_gallery_ofAWrongLetter() {
        for (int at = 0; at < 9; at++) {
            LentGallery g = page(GOOD.substring(0, at) + "x" + GOOD.substring(at + 1));
            refuses(g, "gallery() with x at " + at, g::gallery, STATE);
        }
    }

    @Says("they change nothing")
    static void promise05_gallery_refusedLeavesTheOldOne() {
        LentGallery g = read("123456;78");
        g.tenant(SCHOOL, 2);
        g.image();
        write(g, "999999;90");
        refuses(g, "gallery()", g::gallery, STATE);
        dueStrong(g, 1, 2, 3, 4, 5, 6);
        due("count(3)", g.count(3), 1);
        due("count(10)", g.count(10), 9);
        due("count(11)", g.count(11), 1);
        due("restore()", g.restore(), 0);
    }

    @Says("how many PLACES have not FALLEN")
    static void promise05_gallery_allAndNoneFallen() {
        due("none fallen", page("111111;01").gallery(), 6);
        due("all fallen", page("000000;01").gallery(), 0);
        due("place 0 alone stands", page("100000;01").gallery(), 1);
        due("place 5 alone stands", page("000009;01").gallery(), 1);
    }

    @Says("a digit AIR (0 to 9), a digit CAGE (1 to 9).")
    static void promise05_gallery_leastAndGreatestAirAndCage() {
        LentGallery least = read("123456;01");
        due("count(1)", least.count(1), 0);
        due("count(2)", least.count(2), 1);
        LentGallery most = read("123456;99");
        due("count(1)", most.count(1), 9);
        due("count(2)", most.count(2), 9);
    }

    @Says("THE PAGE is empty then.")
    static void promise05_gallery_leavesAnEmptyPage() {
        LentGallery g = read(GOOD);
        due("count(10)", g.count(10), 0);
        due("blank()", g.blank(), 0);
        refuses(g, "gallery() again", g::gallery, STATE);
        due("letter", g.letter('1'), 1);
    }

    @Says("another one is gone, with all that was")
    static void promise05_gallery_anotherOneIsGone() {
        LentGallery g = read("919999;99");
        g.tenant(TENANT, 1);
        g.tenant(SCHOOL, 0);
        g.knock(0, 0, false);
        g.prop(0);
        g.day();
        write(g, "000234;51");
        due("gallery()", g.gallery(), 3);
        dueStrong(g, 0, 0, 0, 2, 3, 4);
        for (int what = 3; what <= 10; what++) {
            due("count(" + what + ")", g.count(what), 0);
        }
        for (int p = 0; p < 6; p++) {
            due("place(" + p + ", 1)", g.place(p, 1), 0);
            due("place(" + p + ", 2)", g.place(p, 2), 0);
            due("place(" + p + ", 4)", g.place(p, 4), 1023);
        }
        due("about(0, 0)", g.about(0, 0), UNKNOWN);
        due("years(1, 0, 0)", g.years(1, 0, 0), STATE);
        due("a tenant's number", g.tenant(COUPLE, 3), 0);
    }

    @Says("another one is gone, with all that was")
    static void promise05_gallery_ofTheSameTextIsAnother() {
        LentGallery g = read("555555;55");
        g.tenant(CHAPEL, 0);
        g.day();
        write(g, "555555;55");
        due("gallery()", g.gallery(), 6);
        dueStrong(g, 5, 5, 5, 5, 5, 5);
        due("count(3)", g.count(3), 0);
        due("count(11)", g.count(11), 2);
    }

    // ---- promise 6: place

    @Says("UNKNOWN (also without a GALLERY)")
    static void promise06_place_withoutAGallery() {
        LentGallery g = new LentGallery();
        for (int what = 0; what <= 6; what++) {
            int asked = what;
            refuses(g, "place(0, " + what + ")", () -> g.place(0, asked), UNKNOWN);
        }
    }

    @Says("UNKNOWN (a number names nothing)")
    static void promise06_place_thereIsNone() {
        LentGallery g = read("123456;11");
        for (int p : new int[] {-1, 6, LOW, HIGH}) {
            for (int what = 0; what <= 5; what++) {
                int asked = what;
                refuses(g, "place(" + p + ", " + what + ")", () -> g.place(p, asked), UNKNOWN);
            }
        }
    }

    @Says("six digits, how STRONG PLACES 0 to 5 are")
    static void promise06_place_theFirstAndTheLast() {
        LentGallery g = read("355559;11");
        due("place(0, 0)", g.place(0, 0), 3);
        due("place(5, 0)", g.place(5, 0), 9);
    }

    @Says("OUTSIDE.")
    static void promise06_place_whatIsOutside() {
        LentGallery g = read("123456;11");
        for (int what : new int[] {-1, 6, LOW, HIGH}) {
            refuses(g, "place(0, " + what + ")", () -> g.place(0, what), OUTSIDE);
            refuses(g, "place(5, " + what + ")", () -> g.place(5, what), OUTSIDE);
        }
    }

    @Says("UNKNOWN (also without a GALLERY); OUTSIDE.")
    static void promise06_place_unknownAheadOfOutside() {
        LentGallery g = read("123456;11");
        refuses(g, "place(6, 6)", () -> g.place(6, 6), UNKNOWN);
        refuses(g, "place(-1, -1)", () -> g.place(-1, -1), UNKNOWN);
    }

    @Says("what = 0 how STRONG (0: it has FALLEN)")
    static void promise06_place_strongOfAFallenOne() {
        LentGallery g = read("019999;11");
        due("fallen at first", g.place(0, 0), 0);
        g.tenant(CHAPEL, 1);
        g.day();
        due("fallen by a day, by more than it was", g.place(1, 0), 0);
    }

    @Says("1 WEIGHT of all who live in it")
    static void promise06_place_weightOfNoneAndOfAll() {
        LentGallery g = read("999999;99");
        due("nobody", g.place(3, 1), 0);
        g.tenant(COUPLE, 3);
        due("a couple", g.place(3, 1), 0);
        LentGallery full = read("999999;99");
        fillWith(full, CHAPEL, 5);
        due("five chapels", full.place(5, 1), 20);
        due("beside them", full.place(4, 1), 0);
    }

    @Says("1 WEIGHT of all who live in it")
    static void promise06_place_weightInAFallenOne() {
        LentGallery g = read("199999;99");
        g.tenant(SCHOOL, 0);
        g.day();
        due("place(0, 1)", g.place(0, 1), 2);
        due("place(0, 2)", g.place(0, 2), 1);
    }

    @Says("2 who lives in it, as bits")
    static void promise06_place_nobodyAndAllAsBits() {
        LentGallery g = read("999999;99");
        due("nobody", g.place(0, 2), 0);
        fillWith(g, TENANT, 0);
        due("all", g.place(0, 2), 31);
        g.move(4, 5);
        due("the last alone", g.place(5, 2), 16);
        due("the others", g.place(0, 2), 15);
    }

    @Says("3 by how much less STRONG it would be behind a DAY (no more than it is now)")
    static void promise06_place_lessByNoMoreThanItIs() {
        LentGallery g = read("345999;99");
        g.tenant(CHAPEL, 0);
        g.tenant(CHAPEL, 1);
        g.tenant(CHAPEL, 2);
        due("3 by 4", g.place(0, 3), 3);
        due("4 by 4", g.place(1, 3), 4);
        due("5 by 4", g.place(2, 3), 4);
        due("nobody", g.place(3, 3), 0);
        dueStrong(g, 3, 4, 5, 9, 9, 9);
    }

    @Says("3 by how much less STRONG it would be behind a DAY (no more than it is now)")
    static void promise06_place_lessOfAFallenOne() {
        LentGallery g = read("100999;99");
        due("fallen at first", g.place(1, 3), 0);
        g.tenant(CHAPEL, 0);
        g.day();
        due("fallen, with a chapel in it and one fallen beside", g.place(0, 3), 0);
    }

    @Says("and by 1 more, if a PLACE right beside it had FALLEN")
    static void promise06_place_lessByOneBeside() {
        LentGallery g = read("907099;99");
        due("to the right", g.place(0, 3), 1);
        due("on both sides: 1 alone", g.place(2, 3), 1);
        due("to the left", g.place(4, 3), 1);
        due("two away", g.place(5, 3), 0);
        g.tenant(SCHOOL, 2);
        due("with a school", g.place(2, 3), 3);
        due("the shaft is no fallen place", read("990999;99").place(0, 3), 0);
        due("nor the face", read("999099;99").place(5, 3), 0);
        due("place 4 fallen", read("999909;99").place(5, 3), 1);
    }

    @Says("how STRONG it can be now (0 to 9)")
    static void promise06_place_strongWithoutKnocks() {
        LentGallery g = read("990999;99");
        due("of one that stands", g.place(0, 4), 1023);
        due("of one that has fallen", g.place(2, 4), 1023);
    }

    @Says("how STRONG it can be now (0 to 9)")
    static void promise06_place_strongOfTheLeastAndTheGreatest() {
        LentGallery g = read("999999;99");
        g.tenant(TENANT, 2);
        g.knock(2, 8, true);
        due("9 alone stands behind 8 days", g.place(2, 4), 512);
        g.knock(2, 9, true);
        due("not 10 or more", g.place(2, 4), 0);
        g.forget();
        g.knock(2, 0, false);
        due("0 alone has fallen now", g.place(2, 4), 1);
        g.forget();
        g.knock(2, 1, false);
        due("0, and 1 behind a day", g.place(2, 4), 3);
    }

    @Says("how STRONG it can be now (0 to 9)")
    static void promise06_place_strongOfOneThatIsStronger() {
        LentGallery g = read("999999;99");
        propTimes(g, 2, 3);
        g.knock(2, 0, true);
        due("1 to 9, though it is 18", g.place(2, 4), 0b1111111110);
    }

    @Says("all else as it is, so that all KNOCKS would be so")
    static void promise06_place_strongByKnocksElsewhere() {
        LentGallery g = read("999999;99");
        g.knock(0, 1, true);
        due("of place 5, by a knock that is so", g.place(5, 4), 1023);
        g.knock(0, 1, false);
        due("of place 5, by one that is not so", g.place(5, 4), 0);
        g.forget();
        g.knock(1, 9, false);
        due("place 1 falls behind 9 days, if place 0 has fallen now", g.place(0, 4), 1);
        g.forget();
        g.knock(1, 8, false);
        due("not behind 8", g.place(0, 4), 0);
    }

    @Says("all else as it is, so that all KNOCKS would be so")
    static void promise06_place_strongOfAFallenOneWithTenants() {
        LentGallery g = read("299999;99");
        g.tenant(SCHOOL, 0);
        g.day();
        g.knock(0, 2, true);
        due("were it 5 or more, the school would not have it down in 2 days", g.place(0, 4), 0b1111100000);
    }

    @Says("none, if there are none.")
    static void promise06_place_knockOfNone() {
        LentGallery g = read("999999;99");
        g.knock(0, 0, true);
        g.knock(0, 0, false);
        due("place(0, 4)", g.place(0, 4), 0);
        due("place(0, 5)", g.place(0, 5), NONE);
    }

    @Says("5 KNOCK (NONE)")
    static void promise06_place_knockOfOneAlone() {
        LentGallery g = read("999999;99");
        g.knock(0, 0, false);
        due("place(0, 5)", g.place(0, 5), 1);
    }

    @Says("of like ones the least")
    static void promise06_place_knockOfLikeOnes() {
        LentGallery g = read("999999;99");
        due("nobody: 0 has fallen, 1 to 9 stand on each day", g.place(0, 5), 1);
        g.tenant(SCHOOL, 0);
        due("by 2 a day: day 2 leaves 5 (5 to 9), and 5 (0 to 4)", g.place(0, 5), 2);
        g.knock(0, 2, true);
        due("5 to 9: day 3 leaves 3 (7 to 9), day 4 leaves 4 (5 to 8)", g.place(0, 5), 3);
        g.forget();
        g.knock(0, 2, false);
        due("0 to 4: day 1 leaves 3 (0 to 2), and 2", g.place(0, 5), 1);
        LentGallery t = read("999999;99");
        t.tenant(TENANT, 0);
        due("by 1 a day: day 4 leaves 5 (0 to 4) and 5", t.place(0, 5), 4);
        t.knock(0, 0, true);
        due("1 to 9: day 4 leaves 5 (5 to 9), so does day 5 (1 to 5)", t.place(0, 5), 4);
    }

    @Says("the DAY (1 to 10) on which to knock")
    static void promise06_place_knockOnTheLastDay() {
        LentGallery g = read("929999;99");
        g.tenant(TENANT, 1);
        g.knock(0, 9, true);
        due("place 1 falls on day 2: place 0 can be 8 or 9", g.place(0, 4), 0b1100000000);
        due("8 falls on day 10, 9 on day 11", g.place(0, 5), 10);
    }

    @Says("the DAY (1 to 10) on which to knock")
    static void promise06_place_knockNotBehindTheLastDay() {
        LentGallery g = read("939999;99");
        g.tenant(TENANT, 1);
        g.knock(0, 10, true);
        due("place 1 falls on day 3: place 0 can be 8 or 9", g.place(0, 4), 0b1100000000);
        due("8 falls on day 11, too late: all days are alike", g.place(0, 5), 1);
    }

    @Says("so that fewest of these are left at worst, whether it stands, or has FALLEN")
    static void promise06_place_knockByTheWorse() {
        LentGallery g = read("999999;99");
        g.tenant(CHAPEL, 0);
        due("by 4 a day: day 1 leaves 5 (0 to 4) and 5, day 2 leaves 9 and 1", g.place(0, 5), 1);
        g.knock(0, 1, true);
        due("5 to 9: day 2 leaves 4 (5 to 8) and 1, day 1 and day 3 leave 5 and 0", g.place(0, 5), 2);
    }

    // ---- promise 7: prop

    @Says("UNKNOWN; STATE")
    static void promise07_prop_thereIsNoSuchPlace() {
        LentGallery g = read("123456;11");
        for (int p : new int[] {-1, 6, LOW, HIGH}) {
            refuses(g, "prop(" + p + ")", () -> g.prop(p), UNKNOWN);
        }
        LentGallery none = new LentGallery();
        refuses(none, "prop(0) without a gallery", () -> none.prop(0), UNKNOWN);
    }

    @Says("STATE: it has FALLEN")
    static void promise07_prop_ofAFallenPlace() {
        LentGallery g = read("019999;11");
        refuses(g, "prop(0)", () -> g.prop(0), STATE);
        g.tenant(TENANT, 1);
        g.day();
        refuses(g, "prop(1)", () -> g.prop(1), STATE);
        due("count(8)", g.count(8), 0);
    }

    @Says("A PROP makes a PLACE that has not FALLEN by 3 more STRONG (20 at most).")
    static void promise07_prop_upToTwenty() {
        LentGallery g = read("299999;11");
        propTimes(g, 0, 5);
        due("17", g.place(0, 0), 17);
        due("prop(0)", g.prop(0), 20);
        due("place(0, 0)", g.place(0, 0), 20);
        due("count(8)", g.count(8), 6);
    }

    @Says("or would be above 20.")
    static void promise07_prop_aboveTwenty() {
        LentGallery g = read("312999;11");
        propTimes(g, 0, 5);
        propTimes(g, 1, 6);
        propTimes(g, 2, 6);
        dueStrong(g, 18, 19, 20);
        refuses(g, "21", () -> g.prop(0), STATE);
        refuses(g, "22", () -> g.prop(1), STATE);
        refuses(g, "23", () -> g.prop(2), STATE);
        due("count(8)", g.count(8), 17);
    }

    @Says("A PROP makes a PLACE that has not FALLEN by 3 more STRONG")
    static void promise07_prop_ofTheWeakest() {
        LentGallery g = read("100001;11");
        due("prop(0)", g.prop(0), 4);
        due("prop(5)", g.prop(5), 4);
    }
}
