/**
 * The boundary cases that each promise names, a test for each sentence: its title names the promise and the sentence.
 * What refused calls leave as it was is asked by RefusalsTest.
 */
public final class CallsEdgesTest {
    private static final int NONE = -1;
    private static final int UNKNOWN = -101;
    private static final int OUTSIDE = -102;
    private static final int STATE = -103;
    private static final int FULL = -104;
    private static final int LEAST_INT = Integer.MIN_VALUE;
    private static final int MOST_INT = Integer.MAX_VALUE;

    private static final String SHORTEST = "s1000,t0100;0";
    private static final String THREE = "s4321,t5020,b1009;01";
    private static final String LONGEST = "s4321,t5020,b1009,c1234;01233";
    private static final String[] TOWNS = {SHORTEST, THREE, LONGEST};
    private static final int[] SINGERS = {2, 3, 4};
    private static final int[] WIDOWS = {1, 2, 5};
    private static final int[] SINGER_WHATS = {0, 1, 2, 3, 4, 5, 6, 10, 11, 12, 13, 20, 21, 22, 23};

    private static final Due DUE = new Due();

    public static void main(String[] args) {
        page();
        town();
        askingOfTheTown();
        changing();
        mayorAndNeed();
        hearing();
        years();
        images();
        counts();
        digests();
        DUE.end();
    }

    private static void test(String title, Runnable body) {
        DUE.test(title, body);
    }

    private static void due(String call, long got, long want) {
        DUE.due(call, got, want);
    }

    // ---- promises 1 to 4

    private static void page() {
        test("promise 1: no TOWN", CallsEdgesTest::newHasNoTown);
        test("promise 2: OUTSIDE, code 1 to 126", CallsEdgesTest::letterCodes);
        test("promise 2: FULL above 32", CallsEdgesTest::letterFull);
        test("promise 2: how many THE PAGE has", CallsEdgesTest::letterHowMany);
        test("promise 3: how many it had, of an empty page 0", CallsEdgesTest::blankEmpty);
        test("promise 3: how many it had, of a full page 32", CallsEdgesTest::blankFull);
        test("promise 4: of an empty page 0", CallsEdgesTest::faultOfEmpty);
        test("promise 4: the place from 0", CallsEdgesTest::faultFrom0);
        test("promise 4: how many letters, if there is none", CallsEdgesTest::faultNone);
        test("promise 4: the first of several", CallsEdgesTest::faultFirst);
    }

    private static void newHasNoTown() {
        WorstVoice x = new WorstVoice();
        due("count(0)", x.count(0), 0);
        due("mayor()", x.mayor(), STATE);
        due("image()", x.image(), STATE);
        due("singer(0, 0)", x.singer(0, 0), UNKNOWN);
        WorstVoice other = Due.town(SHORTEST);
        due("the other one's town is its own", x.count(0), 0);
        due("the other one has it", other.count(0), 2);
    }

    private static void letterCodes() {
        WorstVoice x = new WorstVoice();
        due("letter(0)", x.letter(0), OUTSIDE);
        due("letter(127)", x.letter(127), OUTSIDE);
        due("letter(-1)", x.letter(-1), OUTSIDE);
        due("letter(128)", x.letter(128), OUTSIDE);
        due("letter(256 + 's')", x.letter(256 + 's'), OUTSIDE);
        due("letter(65536 + 's')", x.letter(65536 + 's'), OUTSIDE);
        due("the least int", x.letter(LEAST_INT), OUTSIDE);
        due("the greatest int", x.letter(MOST_INT), OUTSIDE);
        due("letter(1)", x.letter(1), 1);
        due("letter(126)", x.letter(126), 2);
        due("letter(2)", x.letter(2), 3);
        due("letter(125)", x.letter(125), 4);
        x.blank();
        for (int code = 1; code <= 126; code++) {
            due("letter(" + code + ")", x.letter(code), 1);
            x.blank();
        }
    }

    private static void letterFull() {
        WorstVoice x = new WorstVoice();
        for (int many = 1; many <= 32; many++) {
            due("letter " + many, x.letter(126), many);
        }
        due("letter 33", x.letter(126), FULL);
        due("letter 34", x.letter(1), FULL);
        due("how many", x.count(6), 32);
        due("OUTSIDE is the first", x.letter(0), OUTSIDE);
        due("OUTSIDE is the first above, too", x.letter(127), OUTSIDE);
        x.blank();
        due("behind a blank one", x.letter(126), 1);
    }

    private static void letterHowMany() {
        WorstVoice x = Due.town(LONGEST);
        due("behind a town", x.letter('s'), 1);
        due("the next one", x.letter('s'), 2);
        due("count(6)", x.count(6), 2);
    }

    private static void blankEmpty() {
        WorstVoice x = new WorstVoice();
        due("of a new one", x.blank(), 0);
        x.letter('s');
        due("of one letter", x.blank(), 1);
        due("again", x.blank(), 0);
        due("count(6)", x.count(6), 0);
        due("behind a town", Due.town(SHORTEST).blank(), 0);
        WorstVoice town = Due.town(SHORTEST);
        Due.write(town, "s1");
        due("with a town", town.blank(), 2);
        due("the town stays", town.count(0), 2);
    }

    private static void blankFull() {
        WorstVoice x = full();
        due("blank()", x.blank(), 32);
        due("again", x.blank(), 0);
        due("it takes as many again", x.letter('s'), 1);
        Due.write(x, LONGEST.substring(1));
        due("and they are read", x.town(), 4);
    }

    private static WorstVoice full() {
        WorstVoice x = Due.page(LONGEST);
        Due.write(x, "012");
        return x;
    }

    private static void faultOfEmpty() {
        due("of a new one", new WorstVoice().fault(), 0);
        due("behind a town", Due.town(SHORTEST).fault(), 0);
        WorstVoice x = Due.page("x");
        x.blank();
        due("of a blank one", x.fault(), 0);
    }

    private static void faultFrom0() {
        due("the first", Due.page("x").fault(), 0);
        due("the first of many", Due.page("x1000,t0100;0").fault(), 0);
        due("the second", Due.page("sx000,t0100;0").fault(), 1);
        due("the last of the shortest", Due.page("s1000,t0100;x").fault(), 12);
        due("the last of the longest", Due.page(LONGEST.substring(0, 28) + "x").fault(), 28);
        due("behind the longest", Due.page(LONGEST + "x").fault(), 29);
        due("of a full page", full().fault(), 29);
    }

    private static void faultNone() {
        for (int length = 0; length <= LONGEST.length(); length++) {
            due("of " + length + " letters", Due.page(LONGEST.substring(0, length)).fault(), length);
        }
        due("of the shortest", Due.page(SHORTEST).fault(), 13);
    }

    private static void faultFirst() {
        due("two", Due.page("s1x0y,t0100;0").fault(), 2);
        due("all", Due.page("xxxxxx").fault(), 0);
        due("what would be right behind a wrong one", Due.page("s10000,t0100;0").fault(), 5);
        WorstVoice x = Due.page("s1x0y");
        due("asked once", x.fault(), 2);
        due("asked again", x.fault(), 2);
        due("all letters stay", x.count(6), 5);
    }

    // ---- promise 5

    private static void town() {
        test("promise 5: how many SINGERS", CallsEdgesTest::townHowMany);
        test("promise 5: STATE, it is none", CallsEdgesTest::townNone);
        test("promise 5: THE PAGE is empty then", CallsEdgesTest::townEmptiesPage);
        test("promise 5: another one is gone, with COLDS, aisles, HONEY, WEEKS, HEARD", CallsEdgesTest::townAnother);
        test("promise 5: a smaller one behind a greater one", CallsEdgesTest::townSmaller);
    }

    private static void townHowMany() {
        for (int at = 0; at < TOWNS.length; at++) {
            due("town() of " + TOWNS[at], Due.page(TOWNS[at]).town(), SINGERS[at]);
        }
        due("the least letters", Due.page("s0000,s0000;0").town(), 2);
        due("the greatest letters", Due.page("t9999,t9999;3").town(), 2);
    }

    private static void townNone() {
        due("of an empty page", new WorstVoice().town(), STATE);
        due("of an empty page behind a town", Due.town(SHORTEST).town(), STATE);
        for (int length = 0; length <= 12; length++) {
            due("too short, " + length, Due.page(SHORTEST.substring(0, length)).town(), STATE);
        }
        for (int length = 24; length <= 29; length++) {
            int want = length == 24 ? STATE : 4;
            due("the longest, " + length, Due.page(LONGEST.substring(0, length)).town(), want);
        }
        due("too long by 1", Due.page(LONGEST + "0").town(), STATE);
        due("of a full page", full().town(), STATE);
        due("wrong at the end", Due.page(SHORTEST + ",").town(), STATE);
        due("wrong at the beginning", Due.page("x1000,t0100;0").town(), STATE);
        WorstVoice x = Due.page("s1000,t0100;");
        due("not yet", x.town(), STATE);
        x.letter('3');
        due("the page was kept, and goes on", x.town(), 2);
    }

    private static void townEmptiesPage() {
        WorstVoice x = Due.page(LONGEST);
        due("letters ahead of it", x.count(6), 29);
        x.town();
        due("letters", x.count(6), 0);
        due("blank()", x.blank(), 0);
        due("town() again", x.town(), STATE);
        due("the next letter", x.letter('s'), 1);
    }

    private static WorstVoice changed(String text) {
        WorstVoice x = Due.town(text);
        int last = x.count(0) - 1;
        x.cold(0, true);
        x.cold(last, true);
        x.aisle(0, true);
        x.aisle(last, true);
        x.honey(0, 9);
        x.honey(last, 1);
        x.practise(0);
        x.practise(last);
        x.hear(0, 0, 1, true);
        x.hear(x.count(1) - 1, 1, 0, true);
        return x;
    }

    private static void townAnother() {
        for (String text : TOWNS) {
            WorstVoice x = changed(text);
            Due.write(x, text);
            x.town();
            isAsAtFirst(x, text);
        }
    }

    private static void isAsAtFirst(WorstVoice x, String text) {
        WorstVoice fresh = Due.town(text);
        for (int one = 0; one < 4; one++) {
            for (int what : SINGER_WHATS) {
                due("singer(" + one + ", " + what + ") of " + text, x.singer(one, what), fresh.singer(one, what));
            }
        }
        for (int widow = 0; widow < 5; widow++) {
            for (int what = 0; what <= 4; what++) {
                due("widow(" + widow + ", " + what + ") of " + text, x.widow(widow, what), fresh.widow(widow, what));
            }
        }
        for (int what = 0; what <= 6; what++) {
            due("count(" + what + ") of " + text, x.count(what), fresh.count(what));
        }
        due("no cold is left", x.count(2), 0);
        due("no honey is left", x.count(3), 0);
        due("no week is left", x.count(4), 0);
        due("nothing heard is left", x.count(5), 0);
        due("no image is left", x.restore(), STATE);
    }

    private static void townSmaller() {
        WorstVoice x = changed(LONGEST);
        Due.write(x, SHORTEST);
        due("town()", x.town(), 2);
        due("no third singer", x.singer(2, 0), UNKNOWN);
        due("no second widow", x.widow(1, 0), UNKNOWN);
        isAsAtFirst(x, SHORTEST);
        Due.write(x, LONGEST);
        due("the greater one again", x.town(), 4);
        isAsAtFirst(x, LONGEST);
    }

    // ---- promises 6 to 9

    private static void askingOfTheTown() {
        test("promise 6: UNKNOWN", CallsEdgesTest::singerUnknown);
        test("promise 6: OUTSIDE, 0 to 6, 10 to 13, 20 to 23", CallsEdgesTest::singerOutside);
        test("promise 6: how many, none and all", CallsEdgesTest::singerHowMany);
        test("promise 6: 1 or 0, HONEY 0 to 9", CallsEdgesTest::singerHas);
        test("promise 7: UNKNOWN; OUTSIDE, KIND 0 to 4", CallsEdgesTest::asRefusals);
        test("promise 7: the number; NONE", CallsEdgesTest::asNumber);
        test("promise 8: UNKNOWN", CallsEdgesTest::widowUnknown);
        test("promise 8: OUTSIDE, 0 to 4", CallsEdgesTest::widowOutside);
        test("promise 9: UNKNOWN, widow, singer", CallsEdgesTest::winceUnknown);
    }

    private static void singerUnknown() {
        for (int at = 0; at < TOWNS.length; at++) {
            WorstVoice x = Due.town(TOWNS[at]);
            for (int what : SINGER_WHATS) {
                isKnown("singer 0, " + what, x.singer(0, what));
                isKnown("the last singer, " + what, x.singer(SINGERS[at] - 1, what));
                due("singer -1, " + what, x.singer(-1, what), UNKNOWN);
                due("the singer behind the last, " + what, x.singer(SINGERS[at], what), UNKNOWN);
            }
            for (int wild : new int[] {LEAST_INT, MOST_INT, 4, 256, 65536}) {
                due("singer " + wild, x.singer(wild, 0), UNKNOWN);
                due("singer " + wild + ", UNKNOWN is the first", x.singer(wild, 7), UNKNOWN);
            }
        }
        due("without a town", new WorstVoice().singer(0, 0), UNKNOWN);
        due("without a town, UNKNOWN is the first", new WorstVoice().singer(0, -1), UNKNOWN);
    }

    private static void isKnown(String call, int got) {
        due(call + " is not refused", got >= NONE ? 0 : got, 0);
    }

    private static void singerOutside() {
        WorstVoice x = Due.town(LONGEST);
        for (int what = -5; what <= 40; what++) {
            boolean isTold = what >= 0 && what <= 6 || what >= 10 && what <= 13 || what >= 20 && what <= 23;
            due("what " + what + " is told", x.singer(3, what) != OUTSIDE ? 1 : 0, isTold ? 1 : 0);
            due("what " + what + " of no singer", x.singer(4, what), UNKNOWN);
        }
        for (int wild : new int[] {LEAST_INT, MOST_INT, 256, 65536, -256}) {
            due("what " + wild, x.singer(0, wild), OUTSIDE);
        }
    }

    private static void singerHowMany() {
        WorstVoice x = Due.town("s0000,s1111,s0000;01230");
        due("none are for him", x.singer(0, 1), 0);
        due("all are for him", x.singer(1, 1), 5);
        due("all are for him by that", x.singer(1, 6), 5);
        due("none are for him by that", Due.town("s9999,s0000;01230").singer(1, 6), 0);
        due("the one there is", Due.town("s0000,s1000;0").singer(1, 1), 1);
    }

    private static void singerHas() {
        WorstVoice x = Due.town(SHORTEST);
        int[] none = {0, 0, 0};
        int[] all = {1, 1, 9};
        for (int at = 0; at < 3; at++) {
            due("at first, what " + (2 + at), x.singer(1, 2 + at), none[at]);
        }
        x.cold(1, true);
        x.aisle(1, true);
        x.honey(1, 9);
        for (int at = 0; at < 3; at++) {
            due("he has, what " + (2 + at), x.singer(1, 2 + at), all[at]);
            due("the other has not, what " + (2 + at), x.singer(0, 2 + at), none[at]);
        }
        x.cold(1, false);
        x.aisle(1, false);
        x.honey(1, 0);
        for (int at = 0; at < 3; at++) {
            due("no more, what " + (2 + at), x.singer(1, 2 + at), none[at]);
        }
    }

    private static void asRefusals() {
        WorstVoice x = Due.town(THREE);
        for (int one : new int[] {-1, 3, 4, LEAST_INT, MOST_INT}) {
            for (int kind : new int[] {0, 4, -1, 5}) {
                due("as(" + one + ", " + kind + ")", x.as(one, kind), UNKNOWN);
            }
        }
        for (int one = 0; one < 3; one++) {
            for (int kind : new int[] {-1, 5, LEAST_INT, MOST_INT}) {
                due("as(" + one + ", " + kind + ")", x.as(one, kind), OUTSIDE);
            }
            for (int kind = 0; kind <= 4; kind++) {
                isKnown("as(" + one + ", " + kind + ")", x.as(one, kind));
            }
        }
        due("without a town", new WorstVoice().as(0, 0), UNKNOWN);
        due("without a town, UNKNOWN is the first", new WorstVoice().as(0, 5), UNKNOWN);
    }

    private static void asNumber() {
        WorstVoice x = Due.town("s0000,c0000,c0000,c0000;0");
        for (int one = 1; one < 4; one++) {
            due("a chorister as one", x.as(one, 4), one);
            due("a chorister as a tenor", x.as(one, 1), one);
            due("a chorister as a boy", x.as(one, 2), NONE);
        }
        due("a singer as one", x.as(0, 0), 0);
        due("a singer as a chorister", x.as(0, 4), NONE);
        due("a tenor as a chorister", Due.town("t0000,s0000;0").as(0, 4), NONE);
    }

    private static void widowUnknown() {
        for (int at = 0; at < TOWNS.length; at++) {
            WorstVoice x = Due.town(TOWNS[at]);
            for (int what = 0; what <= 4; what++) {
                isKnown("widow 0, " + what, x.widow(0, what));
                isKnown("the last widow, " + what, x.widow(WIDOWS[at] - 1, what));
                due("widow -1, " + what, x.widow(-1, what), UNKNOWN);
                due("the widow behind the last, " + what, x.widow(WIDOWS[at], what), UNKNOWN);
            }
            for (int wild : new int[] {LEAST_INT, MOST_INT, 5, 256, 65536}) {
                due("widow " + wild, x.widow(wild, 0), UNKNOWN);
                due("widow " + wild + ", UNKNOWN is the first", x.widow(wild, 5), UNKNOWN);
            }
        }
        due("without a town", new WorstVoice().widow(0, 0), UNKNOWN);
        due("without a town, UNKNOWN is the first", new WorstVoice().widow(0, -1), UNKNOWN);
    }

    private static void widowOutside() {
        WorstVoice x = Due.town(LONGEST);
        for (int widow = 0; widow < 5; widow++) {
            for (int what : new int[] {-1, 5, 10, 256, LEAST_INT, MOST_INT}) {
                due("widow(" + widow + ", " + what + ")", x.widow(widow, what), OUTSIDE);
            }
        }
    }

    private static void winceUnknown() {
        for (int at = 0; at < TOWNS.length; at++) {
            WorstVoice x = Due.town(TOWNS[at]);
            int singers = SINGERS[at];
            int widows = WIDOWS[at];
            isKnown("the first, the first", x.wince(0, 0));
            isKnown("the last, the last", x.wince(widows - 1, singers - 1));
            for (int wild : new int[] {-1, LEAST_INT, MOST_INT}) {
                due("widow " + wild, x.wince(wild, 0), UNKNOWN);
                due("singer " + wild, x.wince(0, wild), UNKNOWN);
                due("both " + wild, x.wince(wild, wild), UNKNOWN);
            }
            due("the widow behind the last", x.wince(widows, 0), UNKNOWN);
            due("the singer behind the last", x.wince(0, singers), UNKNOWN);
        }
        due("without a town", new WorstVoice().wince(0, 0), UNKNOWN);
    }

    // ---- promises 10 to 13

    private static void changing() {
        test("promise 10: whether he had; UNKNOWN", CallsEdgesTest::coldHad);
        test("promise 11: whether he did; UNKNOWN", CallsEdgesTest::aisleDid);
        test("promise 12: how much he had; OUTSIDE, honey 0 to 9", CallsEdgesTest::honeyHad);
        test("promise 12: UNKNOWN", CallsEdgesTest::honeyUnknown);
        test("promise 13: how much all FAULTS are together, 0 to 36", CallsEdgesTest::practiseSums);
        test("promise 13: UNKNOWN", CallsEdgesTest::practiseUnknown);
    }

    private static void coldHad() {
        WorstVoice x = Due.town(LONGEST);
        for (int one = 0; one < 4; one++) {
            due("none yet", x.cold(one, false), 0);
            due("one now", x.cold(one, true), 0);
            due("one still", x.cold(one, true), 1);
            due("colds", x.count(2), 1);
            due("none any more", x.cold(one, false), 1);
            due("none still", x.cold(one, false), 0);
        }
        for (int wild : new int[] {-1, 4, LEAST_INT, MOST_INT}) {
            due("cold(" + wild + ", true)", x.cold(wild, true), UNKNOWN);
            due("cold(" + wild + ", false)", x.cold(wild, false), UNKNOWN);
        }
        due("the one behind the last of two", Due.town(SHORTEST).cold(2, true), UNKNOWN);
        due("without a town", new WorstVoice().cold(0, true), UNKNOWN);
    }

    private static void aisleDid() {
        WorstVoice x = Due.town(LONGEST);
        for (int one = 0; one < 4; one++) {
            due("not yet", x.aisle(one, false), 0);
            due("left now", x.aisle(one, true), 0);
            due("left still", x.aisle(one, true), 1);
            due("he alone", x.singer((one + 1) % 4, 3), 0);
            due("not any more", x.aisle(one, false), 1);
            due("not still", x.aisle(one, false), 0);
        }
        for (int wild : new int[] {-1, 4, LEAST_INT, MOST_INT}) {
            due("aisle(" + wild + ", true)", x.aisle(wild, true), UNKNOWN);
            due("aisle(" + wild + ", false)", x.aisle(wild, false), UNKNOWN);
        }
        due("the one behind the last of two", Due.town(SHORTEST).aisle(2, true), UNKNOWN);
        due("without a town", new WorstVoice().aisle(0, true), UNKNOWN);
    }

    private static void honeyHad() {
        WorstVoice x = Due.town(LONGEST);
        for (int one = 0; one < 4; one++) {
            due("honey(" + one + ", 0)", x.honey(one, 0), 0);
            due("honey(" + one + ", 9)", x.honey(one, 9), 0);
            due("honey(" + one + ", -1)", x.honey(one, -1), OUTSIDE);
            due("honey(" + one + ", 10)", x.honey(one, 10), OUTSIDE);
            due("the least int", x.honey(one, LEAST_INT), OUTSIDE);
            due("the greatest int", x.honey(one, MOST_INT), OUTSIDE);
            due("he has what he had", x.singer(one, 4), 9);
            due("so much, not so much more", x.honey(one, 1), 9);
            due("back to none", x.honey(one, 0), 1);
        }
        due("of all", x.count(3), 0);
    }

    private static void honeyUnknown() {
        WorstVoice x = Due.town(THREE);
        for (int wild : new int[] {-1, 3, 4, LEAST_INT, MOST_INT}) {
            for (int honey : new int[] {0, 9, -1, 10}) {
                due("honey(" + wild + ", " + honey + ")", x.honey(wild, honey), UNKNOWN);
            }
        }
        due("without a town", new WorstVoice().honey(0, 1), UNKNOWN);
        due("without a town, UNKNOWN is the first", new WorstVoice().honey(0, 10), UNKNOWN);
    }

    private static void practiseSums() {
        WorstVoice x = Due.town("s2101,b7989;0");
        int[] nearerTo0 = {1, 0, 0};
        int[] nearerTo9 = {35, 36, 36};
        for (int week = 0; week < 3; week++) {
            due("week " + week + " of a singer", x.practise(0), nearerTo0[week]);
            due("week " + week + " of a boy", x.practise(1), nearerTo9[week]);
        }
        due("weeks", x.count(4), 6);
        x.cold(0, true);
        x.honey(0, 9);
        due("faults are no matter of colds or honey", x.practise(0), 0);
    }

    private static void practiseUnknown() {
        WorstVoice x = Due.town(THREE);
        for (int wild : new int[] {-1, 3, 4, LEAST_INT, MOST_INT}) {
            due("practise(" + wild + ")", x.practise(wild), UNKNOWN);
        }
        due("no week", x.count(4), 0);
        due("the last", x.practise(2), 13);
        due("without a town", new WorstVoice().practise(0), UNKNOWN);
    }

    // ---- promises 14, 15

    private static void mayorAndNeed() {
        test("promise 14: STATE, no TOWN", CallsEdgesTest::mayorNoTown);
        test("promise 15: UNKNOWN; OUTSIDE, 0, 10 to 13", CallsEdgesTest::needRefusals);
        test("promise 15: 0 for himself, NONE: there is none such", CallsEdgesTest::needEach);
        test("promise 15: STATE, done 20 times", CallsEdgesTest::needTwentyTimes);
        test("promise 15: it counts where it tells NONE, too", CallsEdgesTest::needCountsNone);
        test("promise 15: a refused one was not done", CallsEdgesTest::needRefusedIsNotDone);
        test("promise 15: it counts on, whatever is read or restored", CallsEdgesTest::needCountsOn);
        test("promise 15: UNKNOWN, OUTSIDE ahead of STATE", CallsEdgesTest::needFirstRefusal);
    }

    private static void mayorNoTown() {
        due("of a new one", new WorstVoice().mayor(), STATE);
        WorstVoice x = Due.page(SHORTEST);
        due("with a page", x.mayor(), STATE);
        x.town();
        due("with a town", x.mayor(), 0);
        x.town();
        due("behind a refused town()", x.mayor(), 0);
    }

    private static void needRefusals() {
        WorstVoice x = Due.town(THREE);
        for (int wild : new int[] {-1, 3, 4, LEAST_INT, MOST_INT}) {
            for (int what : new int[] {0, 10, -1, 14}) {
                due("need(" + wild + ", " + what + ")", x.need(wild, what), UNKNOWN);
            }
        }
        for (int one = 0; one < 3; one++) {
            for (int what : new int[] {-1, 1, 9, 14, 20, LEAST_INT, MOST_INT}) {
                due("need(" + one + ", " + what + ")", x.need(one, what), OUTSIDE);
            }
            for (int what : new int[] {0, 10, 11, 12, 13}) {
                isKnown("need(" + one + ", " + what + ")", x.need(one, what));
            }
        }
        due("those that were told", x.count(8), 15);
        due("without a town", new WorstVoice().need(0, 0), UNKNOWN);
        due("without a town, UNKNOWN is the first", new WorstVoice().need(0, 1), UNKNOWN);
    }

    private static void needEach() {
        WorstVoice two = Due.town("s1000,s0000;0");
        due("of two, himself", two.need(0, 10), 0);
        due("of two, the other", two.need(0, 11), 0);
        due("of two, no third", two.need(0, 12), NONE);
        due("of two, no fourth", two.need(0, 13), NONE);
        WorstVoice three = Due.town("s3000,s2000,s2000;0");
        due("of three, himself", three.need(1, 11), 0);
        due("of three, the first", three.need(1, 10), 2);
        due("of three, the third", three.need(1, 12), 0);
        due("of three, no fourth", three.need(1, 13), NONE);
        WorstVoice turns = Due.town("s0001,b0005;3");
        due("the other", turns.need(0, 11), 9);
        due("himself, who was the other", turns.need(1, 11), 0);
        due("the other, who was himself", turns.need(1, 10), 0);
        WorstVoice none = Due.town("s0000,b0009;3");
        due("there is none, himself", none.need(0, 10), NONE);
        due("there is none, the other", none.need(0, 11), NONE);
        due("there is none, no third", none.need(0, 12), NONE);
    }

    private static void needTwentyTimes() {
        WorstVoice x = Due.town(SHORTEST);
        for (int often = 1; often <= 20; often++) {
            due("need " + often, x.need(0, 0), 0);
            due("count(8)", x.count(8), often);
        }
        due("need 21", x.need(0, 0), STATE);
        due("need 22", x.need(1, 13), STATE);
        due("count(8)", x.count(8), 20);
    }

    private static void needCountsNone() {
        WorstVoice x = Due.town("s0000,b0009;3");
        for (int often = 1; often <= 20; often++) {
            due("need " + often, x.need(0, often % 2 == 0 ? 0 : 13), NONE);
            due("count(8)", x.count(8), often);
        }
        due("need 21", x.need(0, 0), STATE);
    }

    private static void needRefusedIsNotDone() {
        WorstVoice x = Due.town(SHORTEST);
        for (int often = 0; often < 25; often++) {
            x.need(2, 0);
            x.need(-1, 0);
            x.need(0, 1);
            x.need(0, 14);
        }
        due("count(8)", x.count(8), 0);
        due("need 1", x.need(0, 0), 0);
    }

    private static void needCountsOn() {
        WorstVoice x = Due.town(SHORTEST);
        x.image();
        for (int often = 1; often <= 10; often++) {
            x.need(0, 0);
        }
        x.restore();
        due("restored", x.count(8), 10);
        Due.write(x, LONGEST);
        x.town();
        due("read", x.count(8), 10);
        for (int often = 11; often <= 20; often++) {
            isKnown("need " + often, x.need(3, 0));
        }
        due("need 21", x.need(3, 0), STATE);
        x.image();
        x.restore();
        due("need 22, restored", x.need(3, 0), STATE);
        Due.write(x, SHORTEST);
        x.town();
        due("need 23, read", x.need(0, 0), STATE);
        due("another object counts its own", Due.town(SHORTEST).need(0, 0), 0);
    }

    private static void needFirstRefusal() {
        WorstVoice x = Due.town(SHORTEST);
        for (int often = 1; often <= 20; often++) {
            x.need(0, 0);
        }
        due("UNKNOWN, OUTSIDE, STATE", x.need(2, 1), UNKNOWN);
        due("UNKNOWN, STATE", x.need(2, 0), UNKNOWN);
        due("OUTSIDE, STATE", x.need(1, 1), OUTSIDE);
        due("STATE", x.need(1, 10), STATE);
    }

    // ---- promises 16, 17

    private static void hearing() {
        test("promise 16: UNKNOWN, widow, a, b, or these are the same", CallsEdgesTest::hearUnknown);
        test("promise 16: how much is; FULL", CallsEdgesTest::hearFull);
        test("promise 17: how much was", CallsEdgesTest::forgetHowMuch);
    }

    private static void hearUnknown() {
        for (int at = 0; at < TOWNS.length; at++) {
            WorstVoice x = Due.town(TOWNS[at]);
            int singers = SINGERS[at];
            for (int wild : new int[] {-1, LEAST_INT, MOST_INT}) {
                due("widow " + wild, x.hear(wild, 0, 1, true), UNKNOWN);
                due("a " + wild, x.hear(0, wild, 1, true), UNKNOWN);
                due("b " + wild, x.hear(0, 0, wild, false), UNKNOWN);
                due("a and b " + wild, x.hear(0, wild, wild, false), UNKNOWN);
            }
            due("the widow behind the last", x.hear(WIDOWS[at], 0, 1, true), UNKNOWN);
            due("a behind the last", x.hear(0, singers, 0, true), UNKNOWN);
            due("b behind the last", x.hear(0, 0, singers, true), UNKNOWN);
            for (int one = 0; one < singers; one++) {
                due("the same " + one, x.hear(0, one, one, true), UNKNOWN);
                due("the same " + one + ", not more", x.hear(0, one, one, false), UNKNOWN);
            }
            due("the last widow, the last of all", x.hear(WIDOWS[at] - 1, singers - 1, 0, true), 1);
            due("the other way", x.hear(WIDOWS[at] - 1, 0, singers - 1, false), 2);
        }
        due("without a town", new WorstVoice().hear(0, 0, 1, true), UNKNOWN);
    }

    private static void hearFull() {
        WorstVoice x = Due.town(LONGEST);
        for (int many = 1; many <= 8; many++) {
            due("hear " + many, x.hear(many % 5, many % 4, (many + 1) % 4, many % 2 == 0), many);
        }
        due("hear 9", x.hear(0, 0, 1, true), FULL);
        due("hear 10", x.hear(4, 3, 2, false), FULL);
        due("how much", x.count(5), 8);
        due("UNKNOWN, widow, is the first", x.hear(5, 0, 1, true), UNKNOWN);
        due("UNKNOWN, a, is the first", x.hear(0, 4, 1, true), UNKNOWN);
        due("UNKNOWN, b, is the first", x.hear(0, 0, 4, true), UNKNOWN);
        due("UNKNOWN, the same, is the first", x.hear(0, 1, 1, true), UNKNOWN);
        due("forget()", x.forget(), 8);
        due("hear anew", x.hear(0, 0, 1, true), 1);
    }

    private static void forgetHowMuch() {
        due("without a town", new WorstVoice().forget(), 0);
        WorstVoice x = Due.town(LONGEST);
        due("nothing", x.forget(), 0);
        for (int many = 1; many <= 8; many++) {
            for (int heard = 0; heard < many; heard++) {
                x.hear(0, 0, 1, true);
            }
            due("of " + many, x.forget(), many);
            due("again, of " + many, x.forget(), 0);
            due("count(5)", x.count(5), 0);
        }
        due("minds all", x.widow(0, 3), 15);
    }

    // ---- promise 18

    private static void years() {
        test("promise 18: OUTSIDE, times 1 to 60", CallsEdgesTest::yearsTimes);
        test("promise 18: OUTSIDE, seed 0 at least", CallsEdgesTest::yearsSeed);
        test("promise 18: OUTSIDE, what 0 to 2", CallsEdgesTest::yearsWhat);
        test("promise 18: STATE, no TOWN, behind OUTSIDE", CallsEdgesTest::yearsNoTown);
        test("promise 18: how often, never and each time", CallsEdgesTest::yearsHowOften);
    }

    private static void yearsTimes() {
        WorstVoice x = Due.town("s3300,s2200;01");
        for (int times : new int[] {0, 61, -1, LEAST_INT, MOST_INT}) {
            for (int what = 0; what <= 2; what++) {
                due("years(" + times + ", 0, " + what + ")", x.years(times, 0, what), OUTSIDE);
            }
        }
        due("the least", x.years(1, 0, 2), 1406932606);
        due("one more", x.years(2, 0, 2), 1449466924);
        due("one less than the greatest", x.years(59, 0, 2), 286635610);
        due("the greatest", x.years(60, 0, 2), 2120877416);
        due("how often by the least", x.years(1, 0, 0), 1);
        due("how often by one less than the greatest", x.years(59, 0, 0), 43);
        due("how often by the greatest", x.years(60, 0, 0), 44);
    }

    private static void yearsSeed() {
        WorstVoice x = Due.town("s3300,s2200;01");
        for (int seed : new int[] {-1, LEAST_INT}) {
            for (int what = 0; what <= 2; what++) {
                due("years(1, " + seed + ", " + what + ")", x.years(1, seed, what), OUTSIDE);
            }
        }
        due("the least", x.years(1, 0, 2), 1406932606);
        due("the next", x.years(1, 1, 2), 377401575);
        due("the greatest", x.years(1, MOST_INT, 2), 288979989);
        due("the greatest, most times", x.years(60, MOST_INT, 2), 2141326983);
        due("how often from the greatest", x.years(60, MOST_INT, 0), 47);
    }

    private static void yearsWhat() {
        WorstVoice x = Due.town(SHORTEST);
        for (int what : new int[] {-1, 3, 10, LEAST_INT, MOST_INT}) {
            due("years(1, 0, " + what + ")", x.years(1, 0, what), OUTSIDE);
        }
        for (int what = 0; what <= 2; what++) {
            isKnown("years(1, 0, " + what + ")", x.years(1, 0, what));
        }
    }

    private static void yearsNoTown() {
        WorstVoice x = Due.page(SHORTEST);
        for (int what = 0; what <= 2; what++) {
            due("years(1, 0, " + what + ")", x.years(1, 0, what), STATE);
            due("years(60, MAX, " + what + ")", x.years(60, MOST_INT, what), STATE);
            due("years(0, 0, " + what + ")", x.years(0, 0, what), OUTSIDE);
            due("years(61, 0, " + what + ")", x.years(61, 0, what), OUTSIDE);
            due("years(1, -1, " + what + ")", x.years(1, -1, what), OUTSIDE);
        }
        due("years(1, 0, -1)", x.years(1, 0, -1), OUTSIDE);
        due("years(1, 0, 3)", x.years(1, 0, 3), OUTSIDE);
        x.town();
        due("with a town", x.years(1, 0, 2), 1406932606);
    }

    private static void yearsHowOften() {
        WorstVoice always = Due.town("s0000,t0000;2");
        due("each time", always.years(60, 0, 0), 60);
        due("each time, the last", always.years(60, 0, 1), 0);
        WorstVoice never = Due.town("t0000,b0001;3");
        due("never", never.years(60, 0, 0), 0);
        due("never, the last", never.years(60, 0, 1), 1);
    }

    // ---- promises 19, 20

    private static void images() {
        test("promise 19: STATE, no TOWN", CallsEdgesTest::imageNoTown);
        test("promise 19: how many WEEKS there were", CallsEdgesTest::imageWeeks);
        test("promise 19: one; the latest", CallsEdgesTest::imageLatest);
        test("promise 20: STATE, none was kept", CallsEdgesTest::restoreNone);
        test("promise 20: STATE, a TOWN was read since, of the same text, too", CallsEdgesTest::restoreOfSameText);
        test("promise 20: a refused town() takes no IMAGE away", CallsEdgesTest::restoreBehindRefusedTown);
        test("promise 20: the IMAGE stays", CallsEdgesTest::restoreAgain);
    }

    private static void imageNoTown() {
        WorstVoice x = new WorstVoice();
        due("of a new one", x.image(), STATE);
        due("no image then", x.restore(), STATE);
        Due.write(x, SHORTEST);
        due("with a page", x.image(), STATE);
        x.town();
        due("the refused one kept none", x.restore(), STATE);
        due("with a town", x.image(), 0);
    }

    private static void imageWeeks() {
        WorstVoice x = Due.town("s0000,b9999;0");
        for (int weeks = 0; weeks <= 40; weeks++) {
            due("image() by week " + weeks, x.image(), weeks);
            due("restore() by week " + weeks, x.restore(), weeks);
            x.practise(weeks % 2);
        }
        due("restore() of the latest", x.restore(), 40);
    }

    private static void imageLatest() {
        WorstVoice x = Due.town(SHORTEST);
        x.honey(0, 1);
        x.image();
        x.honey(0, 2);
        x.image();
        x.honey(0, 3);
        x.restore();
        due("the latest", x.singer(0, 4), 2);
        x.restore();
        due("the one ahead of it is gone", x.singer(0, 4), 2);
    }

    private static void restoreNone() {
        due("of a new one", new WorstVoice().restore(), STATE);
        WorstVoice x = Due.town(SHORTEST);
        due("with a town", x.restore(), STATE);
        x.practise(0);
        due("after a week", x.restore(), STATE);
        due("nothing was restored", x.count(4), 1);
    }

    private static void restoreOfSameText() {
        WorstVoice x = Due.town(SHORTEST);
        x.honey(0, 5);
        x.image();
        Due.write(x, SHORTEST);
        due("written, not read yet", x.restore(), 0);
        x.town();
        due("of the same text", x.restore(), STATE);
        due("nothing was restored", x.singer(0, 4), 0);
        x.image();
        Due.write(x, LONGEST);
        x.town();
        due("of another text", x.restore(), STATE);
        due("an image again", x.image(), 0);
        due("restored", x.restore(), 0);
    }

    private static void restoreBehindRefusedTown() {
        WorstVoice x = Due.town(SHORTEST);
        x.practise(0);
        x.image();
        x.practise(0);
        due("town() of an empty page", x.town(), STATE);
        due("restore()", x.restore(), 1);
        Due.write(x, SHORTEST + "x");
        x.practise(0);
        due("town() of a wrong one", x.town(), STATE);
        due("restore() again", x.restore(), 1);
    }

    private static void restoreAgain() {
        WorstVoice x = Due.town(SHORTEST);
        x.practise(1);
        x.image();
        long before = x.digest();
        for (int often = 1; often <= 3; often++) {
            x.practise(0);
            x.cold(0, true);
            x.aisle(1, true);
            x.honey(1, often);
            x.hear(0, 0, 1, true);
            due("restore " + often, x.restore(), 1);
            due("all as kept, " + often, x.digest(), before);
        }
        due("restore() with nothing changed", x.restore(), 1);
        due("all as kept", x.digest(), before);
    }

    // ---- promise 21

    private static void counts() {
        test("promise 21: OUTSIDE, 0 to 8", CallsEdgesTest::countOutside);
        test("promise 21: of an empty one all are 0", CallsEdgesTest::countEmpty);
        test("promise 21: the most of each", CallsEdgesTest::countMost);
        test("promise 21: how often a TOWN was read", CallsEdgesTest::countTowns);
    }

    private static void countOutside() {
        WorstVoice[] all = {new WorstVoice(), Due.town(SHORTEST)};
        for (WorstVoice x : all) {
            for (int what : new int[] {-1, 9, 10, 256, LEAST_INT, MOST_INT}) {
                due("count(" + what + ")", x.count(what), OUTSIDE);
            }
            for (int what = 0; what <= 8; what++) {
                isKnown("count(" + what + ")", x.count(what));
            }
        }
    }

    private static void countEmpty() {
        WorstVoice x = new WorstVoice();
        for (int what = 0; what <= 8; what++) {
            due("count(" + what + ")", x.count(what), 0);
        }
    }

    private static void countMost() {
        WorstVoice x = Due.town("s9999,s9999,s9999,s9999;01233");
        for (int one = 0; one < 4; one++) {
            x.cold(one, true);
            x.honey(one, 9);
        }
        for (int often = 1; often <= 20; often++) {
            x.need(0, 0);
            x.practise(often % 4);
            x.hear(0, 0, 1, true);
        }
        for (int many = 0; many < 40; many++) {
            x.letter('s');
        }
        int[] most = {4, 5, 4, 36, 20, 8, 32, 1, 20};
        for (int what = 0; what < most.length; what++) {
            due("count(" + what + ")", x.count(what), most[what]);
        }
    }

    private static void countTowns() {
        WorstVoice x = new WorstVoice();
        for (int often = 1; often <= 20; often++) {
            x.town();
            Due.write(x, SHORTEST);
            due("before town " + often, x.count(7), often - 1);
            x.town();
            due("town " + often, x.count(7), often);
        }
        x.image();
        x.restore();
        due("restored", x.count(7), 20);
    }

    // ---- promise 22

    private static void digests() {
        test("promise 22: of an empty one", CallsEdgesTest::digestEmpty);
        test("promise 22: of a page alone, empty to full", CallsEdgesTest::digestPage);
        test("promise 22: with a TOWN MAYOR", CallsEdgesTest::digestTown);
        test("promise 22: as longs, wrapping", CallsEdgesTest::digestWraps);
    }

    private static void digestEmpty() {
        long h = 947;
        for (int what = 0; what <= 8; what++) {
            h = 31 * h;
        }
        due("digest()", new WorstVoice().digest(), h);
        due("by its digits", new WorstVoice().digest(), 25038322186155437L);
    }

    private static void digestPage() {
        WorstVoice x = new WorstVoice();
        long letters = 947;
        for (int many = 1; many <= 32; many++) {
            int code = many == 32 ? 126 : many;
            x.letter(code);
            letters = 31 * letters + code;
            long h = letters;
            for (int what = 0; what <= 8; what++) {
                h = 31 * h + (what == 6 ? many : 0);
            }
            due("of " + many + " letters", x.digest(), h);
        }
        long before = x.digest();
        x.letter(1);
        due("a letter too many", x.digest(), before);
    }

    private static void digestTown() {
        for (int at = 0; at < TOWNS.length; at++) {
            WorstVoice x = Due.town(TOWNS[at]);
            due("read, " + TOWNS[at], x.digest(), told(x, SINGERS[at], WIDOWS[at], ""));
            x = changed(TOWNS[at]);
            x.aisle(0, false);
            Due.write(x, "s\u0001~");
            x.need(0, 0);
            due("changed, " + TOWNS[at], x.digest(), told(x, SINGERS[at], WIDOWS[at], "s\u0001~"));
        }
        WorstVoice x = Due.town("s0000,s0000;0");
        x.hear(0, 0, 1, true);
        due("NONE is told as it is", x.digest(), told(x, 2, 1, ""));
        due("NONE", x.widow(0, 4), NONE);
    }

    private static long told(WorstVoice x, int singers, int widows, String page) {
        long h = 947;
        for (int one = 0; one < singers; one++) {
            for (int what : SINGER_WHATS) {
                h = 31 * h + x.singer(one, what);
            }
        }
        for (int widow = 0; widow < widows; widow++) {
            for (int what = 0; what <= 4; what++) {
                h = 31 * h + x.widow(widow, what);
            }
            for (int one = 0; one < singers; one++) {
                h = 31 * h + x.wince(widow, one);
            }
        }
        h = 31 * h + x.mayor();
        for (int at = 0; at < page.length(); at++) {
            h = 31 * h + page.charAt(at);
        }
        for (int what = 0; what <= 8; what++) {
            h = 31 * h + x.count(what);
        }
        return h;
    }

    private static void digestWraps() {
        java.math.BigInteger h = java.math.BigInteger.valueOf(947);
        WorstVoice x = new WorstVoice();
        for (int at = 0; at < 32; at++) {
            x.letter(126);
            h = h.multiply(java.math.BigInteger.valueOf(31)).add(java.math.BigInteger.valueOf(126));
        }
        for (int what = 0; what <= 8; what++) {
            h = h.multiply(java.math.BigInteger.valueOf(31)).add(java.math.BigInteger.valueOf(what == 6 ? 32 : 0));
        }
        due("the exact number is far above", h.bitLength() > 200 ? 1 : 0, 1);
        due("its last 64 bits", x.digest(), h.longValue());
    }
}
