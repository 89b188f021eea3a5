/**
 * The boundary cases that "What it is" and "Terms" name, a test for each sentence: its title names the promises by
 * which the sentence is told, and the sentence.
 */
public final class TermsEdgesTest {
    private static final int NONE = -1;
    private static final int UNKNOWN = -101;
    private static final int STATE = -103;

    private static final String[] SINGERS = {"", "s0000", "s0000,s0000", "s0000,s0000,s0000",
        "s0000,s0000,s0000,s0000", "s0000,s0000,s0000,s0000,s0000"};
    private static final int LEAST = 2;
    private static final int MOST = 4;

    private static final String KINDS = "stbdc";
    private static final int[] AS = {0, 1, 2, 3, 4, 5, 6, 7, 8, 9};
    private static final int[] HALF = {0, 0, 1, 1, 2, 2, 3, 3, 4, 4};
    private static final int[] TWICE = {0, 2, 4, 6, 8, 10, 12, 14, 16, 18};
    private static final int[] NINE = {9, 9, 9, 9, 9, 9, 9, 9, 9, 9};

    private static final Due DUE = new Due();

    public static void main(String[] args) {
        theTown();
        howBad();
        whoIsMayor();
        whatWouldBe();
        whatIsHeard();
        theYears();
        theImage();
        DUE.end();
    }

    private static void test(String title, Runnable body) {
        DUE.test(title, body);
    }

    private static void due(String call, long got, long want) {
        DUE.due(call, got, want);
    }

    // ---- a TOWN is a text

    private static void theTown() {
        test("promises 4, 5: two SINGERS are the fewest", TermsEdgesTest::fewestSingers);
        test("promises 4, 5: four SINGERS are the most", TermsEdgesTest::mostSingers);
        test("promises 6, 9: SINGERS are numbered from 0", TermsEdgesTest::singersFrom0);
        test("promise 4: ',' between SINGERS, then ';'", TermsEdgesTest::signsBehindSingers);
        test("promises 4, 6: a letter, the KIND", TermsEdgesTest::kindLetters);
        test("promises 4, 6: four digits, each 0 to 9", TermsEdgesTest::faultDigits);
        test("promises 4, 5: one WIDOW is the fewest", TermsEdgesTest::fewestWidows);
        test("promises 4, 5: five WIDOWS are the most", TermsEdgesTest::mostWidows);
        test("promises 4, 8: WIDOWS' digits 0 to 3", TermsEdgesTest::widowDigits);
        test("promises 8, 9: WIDOWS 0 and on", TermsEdgesTest::widowsFrom0);
        test("what it is: the 512th call still answers", TermsEdgesTest::lastCall);
        test("promise 1: at first there is no TOWN", TermsEdgesTest::noneAtFirst);
    }

    private static void fewestSingers() {
        due("fault() of one", Due.page(SINGERS[1] + ";0").fault(), 5);
        due("town() of one", Due.page(SINGERS[1] + ";0").town(), STATE);
        due("fault() of two", Due.page(SINGERS[2] + ";0").fault(), 13);
        due("town() of two", Due.page(SINGERS[2] + ";0").town(), 2);
        due("town() of three", Due.page(SINGERS[3] + ";0").town(), 3);
        due("fault() of none", Due.page(";0").fault(), 0);
        due("town() of none", Due.page(";0").town(), STATE);
    }

    private static void mostSingers() {
        due("fault() of four", Due.page(SINGERS[4] + ";0").fault(), 25);
        due("town() of four", Due.page(SINGERS[4] + ";0").town(), 4);
        due("fault() of five", Due.page(SINGERS[5] + ";0").fault(), 23);
        due("town() of five", Due.page(SINGERS[5] + ";0").town(), STATE);
        due("fault() of four and ','", Due.page(SINGERS[4] + ",").fault(), 23);
    }

    private static void singersFrom0() {
        for (int many = LEAST; many <= MOST; many++) {
            WorstVoice x = Due.town(SINGERS[many] + ";0");
            due("the one ahead of 0, of " + many, x.singer(-1, 0), UNKNOWN);
            due("singer 0 of " + many, x.singer(0, 0), 0);
            due("the last of " + many, x.singer(many - 1, 0), 0);
            due("the one behind the last of " + many, x.singer(many, 0), UNKNOWN);
        }
        WorstVoice x = Due.town("s1000,s2000,s3000,s4000;0");
        for (int one = 0; one < MOST; one++) {
            due("wince(0, " + one + ")", x.wince(0, one), one + 1);
        }
    }

    private static void signsBehindSingers() {
        String[] signs = {"", ",", ",;", ",;", ";"};
        for (int many = 1; many <= MOST; many++) {
            onlyThese(SINGERS[many], signs[many]);
        }
    }

    private static void kindLetters() {
        for (int many = 0; many < MOST; many++) {
            onlyThese(many == 0 ? "" : SINGERS[many] + ",", KINDS);
        }
        for (int kind = 0; kind < KINDS.length(); kind++) {
            WorstVoice x = Due.town("s0000," + KINDS.charAt(kind) + "0000;0");
            due("kind of " + KINDS.charAt(kind), x.singer(1, 0), kind);
        }
    }

    private static void faultDigits() {
        for (int many = 0; many < MOST; many++) {
            String before = many == 0 ? "s" : SINGERS[many] + ",s";
            for (int digits = 0; digits < 4; digits++) {
                onlyThese(before + "0000".substring(0, digits), "0123456789");
            }
        }
        due("three digits", Due.page("s000,s0000;0").fault(), 4);
        due("five digits", Due.page("s00000,s0000;0").fault(), 5);
        WorstVoice x = Due.town("s0909,s9090;0");
        for (int fault = 0; fault < 4; fault++) {
            due("the least, the greatest, fault " + fault, x.singer(0, 10 + fault), fault % 2 == 0 ? 0 : 9);
            due("the greatest, the least, fault " + fault, x.singer(1, 10 + fault), fault % 2 == 0 ? 9 : 0);
        }
    }

    private static void fewestWidows() {
        for (int many = LEAST; many <= MOST; many++) {
            String text = SINGERS[many] + ";";
            due("fault() of no widow", Due.page(text).fault(), text.length());
            due("town() of no widow", Due.page(text).town(), STATE);
            due("town() of no ';'", Due.page(SINGERS[many]).town(), STATE);
            due("town() of one widow", Due.page(text + "3").town(), many);
        }
        due("one widow", Due.town(SINGERS[2] + ";3").count(1), 1);
    }

    private static void mostWidows() {
        for (int many = LEAST; many <= MOST; many++) {
            String text = SINGERS[many] + ";01233";
            due("fault() of five widows", Due.page(text).fault(), text.length());
            due("town() of five widows", Due.page(text).town(), many);
            due("five widows", Due.town(text).count(1), 5);
            due("fault() of six widows", Due.page(text + "0").fault(), text.length());
            due("town() of six widows", Due.page(text + "0").town(), STATE);
        }
    }

    private static void widowDigits() {
        for (int many = LEAST; many <= MOST; many++) {
            for (int widows = 0; widows <= 5; widows++) {
                onlyThese(SINGERS[many] + ";" + "00000".substring(0, widows), widows < 5 ? "0123" : "");
            }
        }
        WorstVoice x = Due.town(SINGERS[2] + ";03");
        due("the least", x.widow(0, 0), 0);
        due("the greatest", x.widow(1, 0), 3);
    }

    private static void widowsFrom0() {
        int[] minds = {3, 2, 1, 0, 3};
        for (int many = 1; many <= minds.length; many++) {
            WorstVoice x = Due.town("s1234,s0000;" + "32103".substring(0, many));
            due("widow(-1, 0)", x.widow(-1, 0), UNKNOWN);
            for (int widow = 0; widow < many; widow++) {
                due("widow(" + widow + ", 0) of " + many, x.widow(widow, 0), minds[widow]);
                due("wince(" + widow + ", 0) of " + many, x.wince(widow, 0), minds[widow] + 1);
            }
            due("the one behind the last of " + many, x.widow(many, 0), UNKNOWN);
        }
    }

    private static void lastCall() {
        WorstVoice x = Due.town("s1000,s2000;0");
        int calls = "s1000,s2000;0".length() + 1;
        for (; calls < 511; calls++) {
            due("call " + (calls + 1), x.mayor(), 1);
        }
        due("call 512", x.singer(1, 20), 2);
    }

    private static void noneAtFirst() {
        WorstVoice x = new WorstVoice();
        due("count(0)", x.count(0), 0);
        due("count(1)", x.count(1), 0);
        due("singer(0, 0)", x.singer(0, 0), UNKNOWN);
        due("widow(0, 0)", x.widow(0, 0), UNKNOWN);
        due("mayor()", x.mayor(), STATE);
        due("with a whole page that is not read", Due.page("s0000,s0000;0").mayor(), STATE);
    }

    /** Behind a text that a TOWN may begin with, only these letters may come. */
    private static void onlyThese(String text, String letters) {
        for (int code = 1; code <= 126; code++) {
            WorstVoice x = Due.page(text);
            x.letter(code);
            boolean isRight = letters.indexOf(code) >= 0;
            due("fault() of " + text + " and code " + code, x.fault(), isRight ? text.length() + 1 : text.length());
        }
    }

    // ---- KINDS, how BAD one is

    private static void howBad() {
        test("promise 7: all are SINGERS; a CHORISTER is a TENOR, too", TermsEdgesTest::kindsOfKinds);
        test("promise 6: a SINGER is as BAD as his FAULTS", () -> badIs('s', AS, AS, AS, AS));
        test("promise 6: a TENOR in PITCH half, rounded down", () -> badIs('t', HALF, AS, AS, AS));
        test("promise 6: a BOY in FEELING twice", () -> badIs('b', AS, AS, AS, TWICE));
        test("promise 6: a DEAF one in PITCH 9", () -> badIs('d', NINE, AS, AS, AS));
        test("promise 6: a CHORISTER in PITCH, in BREATH half, rounded down", () -> badIs('c', HALF, HALF, AS, AS));
        test("promise 6: a COLD is 3 more in PITCH, in BREATH alone", TermsEdgesTest::coldIsThreeMore);
        test("promise 6: the LEFT aisle is 1 less in all", TermsEdgesTest::leftIsOneLess);
        test("promise 6: less by as much HONEY, 0 to 9", TermsEdgesTest::honeyIsLess);
        test("promise 6: 0 at least, of all together", TermsEdgesTest::badAtLeast0);
        test("promise 5: at first no COLD, no HONEY, all on the right", TermsEdgesTest::townAtFirst);
        test("promise 9: WINCES 0 at least, 18 at most", TermsEdgesTest::wincesLeastAndMost);
        test("promise 13: a WEEK, nearer to 0, not below", TermsEdgesTest::weekOfOthers);
        test("promise 13: a WEEK of a BOY, nearer to 9, not above", TermsEdgesTest::weekOfBoy);
    }

    private static void kindsOfKinds() {
        String[] are = {"s", "st", "sb", "sd", "stc"};
        for (int own = 0; own < KINDS.length(); own++) {
            WorstVoice x = Due.town(KINDS.charAt(own) + "0000," + KINDS.charAt(own) + "0000;0");
            for (int kind = 0; kind < KINDS.length(); kind++) {
                boolean is = are[own].indexOf(KINDS.charAt(kind)) >= 0;
                due(KINDS.charAt(own) + " 0 as kind " + kind, x.as(0, kind), is ? 0 : NONE);
                due(KINDS.charAt(own) + " 1 as kind " + kind, x.as(1, kind), is ? 1 : NONE);
            }
        }
    }

    private static void badIs(char kind, int[] pitch, int[] breath, int[] words, int[] feeling) {
        for (int great = 0; great <= 9; great++) {
            String text = "" + kind + great + great + great + great;
            WorstVoice x = Due.town("s0000," + text + ";0");
            badIs(x, text, pitch[great], breath[great], words[great], feeling[great]);
        }
    }

    private static void badIs(WorstVoice x, String named, int pitch, int breath, int words, int feeling) {
        due("pitch of " + named, x.singer(1, 20), pitch);
        due("breath of " + named, x.singer(1, 21), breath);
        due("words of " + named, x.singer(1, 22), words);
        due("feeling of " + named, x.singer(1, 23), feeling);
    }

    /** The second singer is as told by the text, with or without a cold, on the left or not, with so much honey. */
    private static WorstVoice withAll(String text, boolean cold, boolean left, int honey) {
        WorstVoice x = Due.town("s0000," + text + ";0");
        x.cold(1, cold);
        x.aisle(1, left);
        x.honey(1, honey);
        return x;
    }

    private static void coldIsThreeMore() {
        badIs(withAll("s0000", true, false, 0), "s0000", 3, 3, 0, 0);
        badIs(withAll("s9999", true, false, 0), "s9999", 12, 12, 9, 9);
        badIs(withAll("t9999", true, false, 0), "t9999", 7, 12, 9, 9);
        badIs(withAll("b9999", true, false, 0), "b9999", 12, 12, 9, 18);
        badIs(withAll("d0000", true, false, 0), "d0000", 12, 3, 0, 0);
        badIs(withAll("c9999", true, false, 0), "c9999", 7, 7, 9, 9);
        WorstVoice x = withAll("s4444", true, false, 0);
        x.cold(1, true);
        badIs(x, "s4444, a cold twice", 7, 7, 4, 4);
        x.cold(1, false);
        badIs(x, "s4444, no cold any more", 4, 4, 4, 4);
    }

    private static void leftIsOneLess() {
        badIs(withAll("s1111", false, true, 0), "s1111", 0, 0, 0, 0);
        badIs(withAll("s9999", false, true, 0), "s9999", 8, 8, 8, 8);
        badIs(withAll("t9999", false, true, 0), "t9999", 3, 8, 8, 8);
        badIs(withAll("b9999", false, true, 0), "b9999", 8, 8, 8, 17);
        badIs(withAll("d1111", false, true, 0), "d1111", 8, 0, 0, 0);
        badIs(withAll("c9999", false, true, 0), "c9999", 3, 3, 8, 8);
        WorstVoice x = withAll("s4444", false, true, 0);
        x.aisle(1, true);
        badIs(x, "s4444, left twice", 3, 3, 3, 3);
        x.aisle(1, false);
        badIs(x, "s4444, on the right", 4, 4, 4, 4);
    }

    private static void honeyIsLess() {
        for (int honey = 0; honey <= 9; honey++) {
            badIs(withAll("s9999", false, false, honey), "s9999, honey " + honey, 9 - honey, 9 - honey, 9 - honey,
                9 - honey);
            badIs(withAll("b9999", true, false, honey), "b9999, cold, honey " + honey, 12 - honey, 12 - honey,
                9 - honey, 18 - honey);
        }
        badIs(withAll("t9999", false, false, 1), "t9999, honey 1", 3, 8, 8, 8);
        badIs(withAll("d9999", false, false, 9), "d9999, honey 9", 0, 0, 0, 0);
    }

    private static void badAtLeast0() {
        badIs(withAll("s0000", false, true, 0), "s0000, left", 0, 0, 0, 0);
        badIs(withAll("s0000", false, false, 9), "s0000, honey 9", 0, 0, 0, 0);
        badIs(withAll("s0000", false, true, 9), "s0000, left, honey 9", 0, 0, 0, 0);
        badIs(withAll("s0000", true, false, 2), "s0000, cold, honey 2", 1, 1, 0, 0);
        badIs(withAll("s0000", true, false, 3), "s0000, cold, honey 3", 0, 0, 0, 0);
        badIs(withAll("s0000", true, false, 4), "s0000, cold, honey 4", 0, 0, 0, 0);
        badIs(withAll("s0000", true, true, 0), "s0000, cold, left", 2, 2, 0, 0);
        badIs(withAll("s0000", true, true, 2), "s0000, cold, left, honey 2", 0, 0, 0, 0);
        badIs(withAll("d9999", true, true, 9), "d9999, cold, left, honey 9", 2, 2, 0, 0);
        badIs(withAll("b9999", true, true, 9), "b9999, cold, left, honey 9", 2, 2, 0, 8);
    }

    private static void townAtFirst() {
        WorstVoice x = Due.town("s1111,t2222,b3333,d4444;0");
        for (int one = 0; one < MOST; one++) {
            due("cold of " + one, x.singer(one, 2), 0);
            due("left of " + one, x.singer(one, 3), 0);
            due("honey of " + one, x.singer(one, 4), 0);
        }
        due("colds", x.count(2), 0);
        due("honey", x.count(3), 0);
        due("weeks", x.count(4), 0);
        due("heard", x.count(5), 0);
    }

    private static void wincesLeastAndMost() {
        WorstVoice x = Due.town("s0000,b9999,d0000;0123");
        int[][] winces = {{0, 9, 9}, {0, 9, 0}, {0, 9, 0}, {0, 18, 0}};
        for (int widow = 0; widow < winces.length; widow++) {
            for (int one = 0; one < winces[widow].length; one++) {
                due("wince(" + widow + ", " + one + ")", x.wince(widow, one), winces[widow][one]);
            }
        }
        x.cold(1, true);
        due("at a boy with a cold, in pitch", x.wince(0, 1), 12);
        due("at a boy with a cold, in feeling", x.wince(3, 1), 18);
    }

    private static void weekOfOthers() {
        for (char kind : new char[] {'s', 't', 'd', 'c'}) {
            WorstVoice x = Due.town(kind + "0192," + kind + "0000;0");
            due(kind + "0192 after a week", x.practise(0), 9);
            faultsAre(x, 0, kind + "0192", 0, 0, 8, 1);
            due(kind + "0192 after two", x.practise(0), 7);
            faultsAre(x, 0, kind + "0192, two weeks", 0, 0, 7, 0);
            due(kind + "0000 stays", x.practise(1), 0);
            faultsAre(x, 1, kind + "0000", 0, 0, 0, 0);
            due("weeks count, where nothing changes, too", x.count(4), 3);
        }
        due("the most", Due.town("s9999,s0000;0").practise(0), 32);
    }

    private static void weekOfBoy() {
        WorstVoice x = Due.town("b0897,b9999;0");
        due("b0897 after a week", x.practise(0), 27);
        faultsAre(x, 0, "b0897", 1, 9, 9, 8);
        due("b0897 after two", x.practise(0), 29);
        faultsAre(x, 0, "b0897, two weeks", 2, 9, 9, 9);
        due("b9999 stays", x.practise(1), 36);
        faultsAre(x, 1, "b9999", 9, 9, 9, 9);
        due("weeks count, where nothing changes, too", x.count(4), 3);
        due("the least", Due.town("b0000,s0000;0").practise(0), 4);
    }

    private static void faultsAre(WorstVoice x, int one, String named, int pitch, int breath, int words, int feeling) {
        due("fault 0 of " + named, x.singer(one, 10), pitch);
        due("fault 1 of " + named, x.singer(one, 11), breath);
        due("fault 2 of " + named, x.singer(one, 12), words);
        due("fault 3 of " + named, x.singer(one, 13), feeling);
    }

    // ---- FOR, MAYOR

    private static void whoIsMayor() {
        test("promise 8: FOR him at whom she WINCES most, of like ones the least", TermsEdgesTest::forOfLikeOnes);
        test("promise 8: all may be 0", TermsEdgesTest::forWhereAllAre0);
        test("promise 8: how much she WINCES at that one, 0 to 18", TermsEdgesTest::wincesAtThatOne);
        test("promise 14: MAYOR, of like ones the least", TermsEdgesTest::mayorOfLikeOnes);
        test("promise 14: MAYOR, most WIDOWS", TermsEdgesTest::mayorOfMost);
    }

    private static void forOfLikeOnes() {
        due("0 like 1", Due.town("s5000,s5000,s4000,s4000;0").widow(0, 1), 0);
        due("1 like 2", Due.town("s4000,s5000,s5000,s4000;0").widow(0, 1), 1);
        due("1 like 3", Due.town("s4000,s5000,s4000,s5000;0").widow(0, 1), 1);
        due("2 like 3", Due.town("s4000,s4000,s5000,s5000;0").widow(0, 1), 2);
        due("all alike", Due.town("s5000,s5000,s5000,s5000;0").widow(0, 1), 0);
        due("the last by 1", Due.town("s4000,s4000,s4000,s5000;0").widow(0, 1), 3);
        due("alike by their kinds", Due.town("s0008,b0004,b0004;3").widow(0, 1), 0);
        due("for him are", Due.town("s5000,s5000;00000").singer(0, 1), 5);
        due("for the like one is none", Due.town("s5000,s5000;00000").singer(1, 1), 0);
    }

    private static void forWhereAllAre0() {
        WorstVoice x = Due.town("s0999,t1999,c1999;0");
        due("for whom", x.widow(0, 1), 0);
        due("she winces", x.widow(0, 2), 0);
        due("how many are for him", x.singer(0, 1), 1);
        due("mayor()", x.mayor(), 0);
    }

    private static void wincesAtThatOne() {
        WorstVoice x = Due.town("s9999,d9999,b9999;0123");
        for (int widow = 0; widow < 4; widow++) {
            due("the greatest, widow " + widow, x.widow(widow, 2), widow == 3 ? 18 : 9);
        }
        x.cold(2, true);
        int[] withCold = {12, 12, 9, 18};
        for (int widow = 0; widow < 4; widow++) {
            due("with a cold, widow " + widow, x.widow(widow, 2), withCold[widow]);
        }
        due("the least", Due.town("s0999,t1999;0").widow(0, 2), 0);
        due("the least but 0", Due.town("s0999,t2999;0").widow(0, 2), 1);
        due("at the last singer", Due.town("s0000,s0000,s0000,s0050;2").widow(0, 2), 5);
    }

    private static void mayorOfLikeOnes() {
        due("0 like 1", Due.town("s9000,s0900,s0000;01").mayor(), 0);
        due("0 like 1, told the other way", Due.town("s9000,s0900,s0000;10").mayor(), 0);
        due("1 like 2", Due.town("s0000,s9000,s0900;01").mayor(), 1);
        due("2 like 3", Due.town("s0000,s0000,s9000,s0900;10").mayor(), 2);
        due("0 like 3", Due.town("s9000,s0000,s0000,s0900;10").mayor(), 0);
        due("all alike", Due.town("s0009,s0090,s0900,s9000;0123").mayor(), 0);
        due("two, two, one", Due.town("s0090,s0900,s9000;00112").mayor(), 1);
    }

    private static void mayorOfMost() {
        due("the last by one", Due.town("s9000,s0900,s0090,s0009;32103").mayor(), 3);
        due("all five", Due.town("s0000,s1000;00000").mayor(), 1);
        due("one widow", Due.town("s0000,s0000,s0001;3").mayor(), 2);
    }

    // ---- WORST, HONEY

    private static void whatWouldBe() {
        test("promise 6: WORST, of like ones the least", TermsEdgesTest::worstOfLikeOnes);
        test("promise 6: WORST, 2 with a COLD", TermsEdgesTest::worstWithCold);
        test("promise 6: WORST, all others as they are", TermsEdgesTest::worstOthersAsTheyAre);
        test("promise 6: WORST, none and all are FOR him by that", TermsEdgesTest::worstVotes);
        test("promise 15: HONEY, 0 for who is MAYOR", TermsEdgesTest::honeyOfMayor);
        test("promise 15: HONEY, no more than 9 for each in all", TermsEdgesTest::honeyNoMoreThan9);
        test("promise 15: HONEY, how much each, 0 to 9", TermsEdgesTest::honeyEach);
        test("promise 15: HONEY, of like ones the first by numbers", TermsEdgesTest::honeyOfLikeOnes);
        test("promise 15: HONEY, none", TermsEdgesTest::honeyNone);
    }

    private static void worstIs(WorstVoice x, String named, int one, int worst, int votes) {
        due("worst of " + one + ", " + named, x.singer(one, 5), worst);
        due("for " + one + " by that, " + named, x.singer(one, 6), votes);
    }

    private static void worstOfLikeOnes() {
        worstIs(Due.town("s9999,s0000;0123"), "worst in each place", 0, 0, 4);
        worstIs(Due.town("s0000,s9999;0123"), "worst in no place", 0, 0, 0);
        worstIs(Due.town("s3000,s0000;0"), "alike is not enough", 1, 0, 0);
        worstIs(Due.town("s0050,s0000;2"), "a cold is nothing in words", 1, 0, 0);
        WorstVoice x = Due.town("s9999,s0000;0123");
        x.cold(0, true);
        x.aisle(0, true);
        worstIs(x, "whatever he has now", 0, 0, 4);
    }

    private static void worstWithCold() {
        worstIs(Due.town("s2000,s0000;0"), "by a cold", 1, 2, 1);
        worstIs(Due.town("s2000,s0000;00000"), "by a cold, five", 1, 2, 5);
        worstIs(Due.town("s0200,s0000;0111"), "by a cold, in breath", 1, 2, 4);
        worstIs(Due.town("s1000,s0000;0"), "by a cold, left would do too", 1, 2, 1);
        worstIs(Due.town("s2000,s0100;01"), "more by a cold", 1, 2, 2);
        WorstVoice x = Due.town("s2000,s0000;0");
        x.cold(1, true);
        worstIs(x, "with the cold that he has", 1, 2, 1);
        due("he has it still", x.singer(1, 2), 1);
        WorstVoice left = Due.town("s3000,s1000;0");
        left.aisle(1, true);
        worstIs(left, "on the right, where he does not stand now", 1, 2, 1);
        due("he stands left still", left.singer(1, 3), 1);
    }

    private static void worstOthersAsTheyAre() {
        WorstVoice x = Due.town("s3000,s1000;0");
        worstIs(x, "with a cold", 1, 2, 1);
        x.cold(0, true);
        worstIs(x, "the other has a cold", 1, 0, 0);
        x.aisle(0, true);
        x.honey(0, 1);
        worstIs(x, "the other has a cold, stands left, has 1 honey", 1, 0, 0);
        x.honey(0, 2);
        worstIs(x, "the other has 2 honey", 1, 2, 1);
        x.honey(0, 4);
        worstIs(x, "the other has 4 honey", 1, 2, 1);
        x.honey(0, 5);
        worstIs(x, "the other has 5 honey", 1, 0, 1);
        x.honey(1, 1);
        worstIs(x, "his own honey stays", 1, 2, 1);
    }

    private static void worstVotes() {
        worstIs(Due.town("s9999,s0000,s0000;01233"), "none", 1, 0, 0);
        worstIs(Due.town("s9999,s0000,s0000;01233"), "all five", 0, 0, 5);
        worstIs(Due.town("s0000,s0000,s0000;01233"), "all five, of like ones", 0, 0, 5);
        worstIs(Due.town("s0000,s0000,s0000;01233"), "those of pitch and breath", 2, 2, 2);
    }

    private static void needIs(String text, int one, int sum, int... each) {
        WorstVoice x = Due.town(text);
        needIs(x, text, one, sum, each);
    }

    private static void needIs(WorstVoice x, String named, int one, int sum, int... each) {
        due("need(" + one + ", 0) of " + named, x.need(one, 0), sum);
        for (int other = 0; other < each.length; other++) {
            due("need(" + one + ", " + (10 + other) + ") of " + named, x.need(one, 10 + other), each[other]);
        }
    }

    private static void honeyOfMayor() {
        needIs("s0000,s0000;0", 0, 0, 0, 0, NONE, NONE);
        needIs("s0000,s0000,s0000,s1000;0", 3, 0, 0, 0, 0, 0);
        needIs("s9999,b9999,d9999,c9999;01233", 0, 0, 0, 0, 0, 0);
    }

    private static void honeyNoMoreThan9() {
        needIs("s0001,b0005;3", 0, 9, 0, 9, NONE, NONE);
        needIs("s0000,b0005;3", 0, NONE);
        needIs("s0001,b0005,b0005,b0005;3", 0, 27, 0, 9, 9, 9);
        WorstVoice x = Due.town("s0001,b0005;3");
        x.honey(1, 1);
        needIs(x, "s0001,b0005;3 with 1 honey", 0, 8, 0, 8);
        x.honey(1, 9);
        needIs(x, "s0001,b0005;3 with 9 honey", 0, 0, 0, 0);
        x.honey(0, 1);
        needIs(x, "s0001,b0005;3 with 9 honey, and he with 1", 0, NONE);
    }

    private static void honeyEach() {
        for (int first = 0; first <= 9; first++) {
            for (int second = 0; second <= 9; second++) {
                needIs("s0001," + needing(first) + "," + needing(second) + ";3", 0, first + second, 0, first, second,
                    NONE);
            }
        }
        int[] some = {0, 1, 5, 8, 9};
        for (int first : some) {
            for (int second : some) {
                for (int third : some) {
                    String others = needing(first) + "," + needing(second) + "," + needing(third);
                    needIs("s0001," + others + ";3", 0, first + second + third, 0, first, second, third);
                }
            }
        }
    }

    /** One who needs so much honey to be no worse in FEELING than s0001. */
    private static String needing(int honey) {
        return honey == 9 ? "b0005" : "s000" + (honey + 1);
    }

    private static void honeyOfLikeOnes() {
        needIs("s5000,s4440,s0600;012", 1, 2, 0, 0, 2, NONE);
        needIs("s5000,s0500,s4440;012", 2, 2, 0, 2, 0, NONE);
        needIs("s4440,s5000,s0500;00112", 0, 1, 0, 0, 1, NONE);
        needIs("s4440,s5000,s0500,s0000;00112", 0, 1, 0, 0, 1, 0);
        needIs("s4440,s5000,s0900;00112", 0, 1, 0, 1, 0, NONE);
        needIs("s5000,s0500,s0050,s4444;012", 3, 4, 0, 2, 2, 0);
    }

    private static void honeyNone() {
        needIs("s0000,b0009;3", 0, NONE, NONE, NONE, NONE, NONE);
        needIs("s0000,s0000;0", 1, NONE, NONE, NONE, NONE, NONE);
        needIs("s0000,s0000,s0000,s0000;0", 3, NONE, NONE, NONE, NONE, NONE);
    }

    // ---- HEARD, MINDS, ASK

    private static void whatIsHeard() {
        test("promise 16: HEARD, 8 at most", TermsEdgesTest::heardAtMost8);
        test("promise 8: MINDS, which FAULTS as bits", TermsEdgesTest::mindsAsBits);
        test("promise 8: MINDS, like ones are not more", TermsEdgesTest::mindsOfLikeOnes);
        test("promise 8: MINDS, none by what contradicts", TermsEdgesTest::mindsNone);
        test("promise 8: MINDS, all where nothing is HEARD of her", TermsEdgesTest::mindsAllOfOther);
        test("promise 8: MINDS, by how all are BAD now", TermsEdgesTest::mindsByNow);
        test("promise 8: ASK, of like ones the least", TermsEdgesTest::askOfLikeOnes);
        test("promise 8: ASK, 14 is the greatest", TermsEdgesTest::askGreatest);
        test("promise 8: ASK, where one FAULT is left", TermsEdgesTest::askWhereOneIsLeft);
        test("promise 8: ASK, none", TermsEdgesTest::askNone);
    }

    private static void heardAtMost8() {
        WorstVoice x = Due.town("s1000,s0000;0");
        for (int many = 1; many <= 8; many++) {
            due("heard " + many, x.hear(0, 0, 1, true), many);
        }
        due("heard 9", x.hear(0, 0, 1, true), -104);
        due("count(5)", x.count(5), 8);
    }

    private static void mindsAsBits() {
        String[] firsts = {"s1000", "s0100", "s0010", "s0001"};
        for (int fault = 0; fault < firsts.length; fault++) {
            WorstVoice x = Due.town(firsts[fault] + ",s0000;0");
            x.hear(0, 0, 1, true);
            due("more, " + firsts[fault], x.widow(0, 3), 1 << fault);
            x.forget();
            x.hear(0, 0, 1, false);
            due("not more, " + firsts[fault], x.widow(0, 3), 15 - (1 << fault));
        }
        WorstVoice all = Due.town("s1111,s0000;0");
        all.hear(0, 0, 1, true);
        due("more, all", all.widow(0, 3), 15);
        WorstVoice eight = Due.town("s1100,s0110,s0011,s0000;0");
        for (int many = 1; many <= 7; many++) {
            eight.hear(0, 0, 3, true);
        }
        due("seven are heard", eight.widow(0, 3), 3);
        eight.hear(0, 1, 3, true);
        due("the eighth counts, too", eight.widow(0, 3), 2);
    }

    private static void mindsOfLikeOnes() {
        WorstVoice x = Due.town("s2112,s1121;0");
        x.hear(0, 0, 1, true);
        due("more", x.widow(0, 3), 1 + 8);
        x.forget();
        x.hear(0, 0, 1, false);
        due("not more", x.widow(0, 3), 2 + 4);
        x.forget();
        x.hear(0, 0, 1, false);
        x.hear(0, 1, 0, false);
        due("alike", x.widow(0, 3), 2);
    }

    private static void mindsNone() {
        WorstVoice x = Due.town("s1111,s0000;0");
        x.hear(0, 0, 1, true);
        x.hear(0, 0, 1, false);
        due("more, and not more", x.widow(0, 3), 0);
        x.forget();
        x.hear(0, 1, 0, true);
        due("what can not be", x.widow(0, 3), 0);
    }

    private static void mindsAllOfOther() {
        WorstVoice x = Due.town("s1111,s0000;01230");
        due("nothing is heard", x.widow(0, 3), 15);
        x.hear(0, 1, 0, true);
        due("heard of her", x.widow(0, 3), 0);
        for (int widow = 1; widow < 5; widow++) {
            due("heard of another, widow " + widow, x.widow(widow, 3), 15);
        }
        x.hear(4, 0, 1, true);
        due("heard of the last", x.widow(4, 3), 15);
        due("not of the first", x.widow(0, 3), 0);
    }

    private static void mindsByNow() {
        WorstVoice x = Due.town("s3000,s0000;0");
        x.hear(0, 0, 1, true);
        due("at first", x.widow(0, 3), 1);
        x.honey(0, 2);
        due("worse by 1", x.widow(0, 3), 1);
        x.honey(0, 3);
        due("alike", x.widow(0, 3), 0);
        x.cold(0, true);
        due("worse by a cold, in breath not", x.widow(0, 3), 1);
        x.honey(0, 2);
        due("worse by a cold, in both", x.widow(0, 3), 3);
        x.aisle(0, true);
        due("alike in breath on the left", x.widow(0, 3), 1);
    }

    private static void askOfLikeOnes() {
        due("no question tells anything apart", Due.town("s0000,s0000;0").widow(0, 4), 1);
        due("the first of two by turns", Due.town("s1100,s0011;0").widow(0, 4), 1);
        due("the turned one is better", Due.town("s0000,s1100;0").widow(0, 4), 4);
        due("three and one is like one and three", Due.town("s1000,s0111;0").widow(0, 4), 1);
        due("a later pair is better", Due.town("s1000,s0000,s0000,s1100;0").widow(0, 4), 4 * 3 + 1);
        due("with the first", Due.town("s0000,s0000,s1100;0").widow(0, 4), 4 * 2);
    }

    private static void askGreatest() {
        due("3 and 2", Due.town("s9999,s9999,s0000,s1100;0").widow(0, 4), 14);
    }

    private static void askWhereOneIsLeft() {
        String[] firsts = {"s1000", "s0100", "s0010", "s0001"};
        for (int fault = 0; fault < firsts.length; fault++) {
            WorstVoice x = Due.town("s0000," + firsts[fault] + ",s9999;0");
            x.hear(0, 1, 0, true);
            due("bits of " + firsts[fault], x.widow(0, 3), 1 << fault);
            due("ask of " + firsts[fault], x.widow(0, 4), 1);
        }
    }

    private static void askNone() {
        WorstVoice x = Due.town("s1100,s0011;00");
        x.hear(0, 0, 1, true);
        due("where two are left", x.widow(0, 4), 1);
        x.hear(0, 0, 1, false);
        due("where none is left", x.widow(0, 4), NONE);
        due("of another widow", x.widow(1, 4), 1);
        x.forget();
        due("forgotten", x.widow(0, 4), 1);
    }

    // ---- YEARS

    private static void theYears() {
        test("promise 18: DRAWS wrap around at 2 to the 31", TermsEdgesTest::drawsWrap);
        test("promise 18: a DRAW is of how many SINGERS there are", TermsEdgesTest::drawsOfSingers);
        test("promise 18: one practises, one (perhaps the same) is chilled", TermsEdgesTest::perhapsTheSame);
        test("promise 18: a COLD, if he has none, else none any more", TermsEdgesTest::coldsTurn);
        test("promise 18: YEARS as they would be", TermsEdgesTest::yearsWouldBe);
    }

    private static void yearsAre(String text, int times, int seed, int often, int last, int next) {
        WorstVoice x = Due.town(text);
        String named = " by " + times + " from " + seed + " of " + text;
        due("how often" + named, x.years(times, seed, 0), often);
        due("the last" + named, x.years(times, seed, 1), last);
        due("the seed" + named, x.years(times, seed, 2), next);
    }

    private static void drawsWrap() {
        String text = "s3300,s2200;01";
        yearsAre(text, 1, 0, 1, 0, 1406932606);
        yearsAre(text, 2, 0, 1, 1, 1449466924);
        yearsAre(text, 1, 1, 1, 0, 377401575);
        yearsAre(text, 2, 1, 2, 0, 1147902781);
        yearsAre(text, 1, Integer.MAX_VALUE, 0, 1, 288979989);
        yearsAre(text, 2, Integer.MAX_VALUE, 1, 0, 1751031067);
    }

    private static void drawsOfSingers() {
        yearsAre("s3300,s2200;01", 60, 0, 44, 0, 2120877416);
        yearsAre("s3300,t9900,b0004;013", 60, 0, 3, 2, 2120877416);
        yearsAre("s3300,t9900,b0004;013", 60, 1, 2, 2, 2100427849);
        yearsAre("s3300,t9900,b0004,c9900;01133", 60, 1, 1, 2, 2100427849);
        yearsAre("s3300,t9900,b0004,c9900;01133", 60, Integer.MAX_VALUE, 0, 2, 2141326983);
    }

    /** From SEED 1 the first two DRAWS of two are 0: in the first year singer 0 practises, and is chilled. */
    private static void perhapsTheSame() {
        due("as bad by the cold", Due.town("s0200,s0400;1").years(1, 1, 1), 0);
        due("less bad by the practice", Due.town("s0100,s0400;1").years(1, 1, 1), 1);
        due("a boy gets worse by it", Due.town("b0100,s0500;1").years(1, 1, 1), 0);
        due("no worse than so", Due.town("b0100,s0600;1").years(1, 1, 1), 1);
    }

    /** From SEED 1 the second DRAW of two is 0: singer 0 is chilled in the first year. */
    private static void coldsTurn() {
        WorstVoice x = Due.town("s0100,s0300;1");
        due("he has none", x.years(1, 1, 1), 0);
        x.cold(0, true);
        due("he has one", x.years(1, 1, 1), 1);
    }

    private static void yearsWouldBe() {
        WorstVoice x = Due.town("s3300,t9900,b0004,c9900;01133");
        x.cold(1, true);
        x.aisle(2, true);
        x.honey(3, 9);
        x.practise(0);
        x.hear(0, 1, 2, true);
        x.image();
        long before = x.digest();
        for (int what = 0; what <= 2; what++) {
            int once = x.years(60, 5, what);
            due("the same again, " + what, x.years(60, 5, what), once);
        }
        due("all as it was", x.digest(), before);
        x.restore();
        due("the image, too", x.digest(), before);
    }

    // ---- IMAGE

    private static void theImage() {
        test("promise 19: an IMAGE keeps FAULTS, WEEKS", TermsEdgesTest::imageKeepsFaults);
        test("promise 19: an IMAGE keeps COLDS", TermsEdgesTest::imageKeepsColds);
        test("promise 19: an IMAGE keeps aisles", TermsEdgesTest::imageKeepsAisles);
        test("promise 19: an IMAGE keeps HONEY", TermsEdgesTest::imageKeepsHoney);
        test("promise 19: an IMAGE keeps HEARD", TermsEdgesTest::imageKeepsHeard);
        test("promise 20: THE PAGE, TOWNS read and need() go on", TermsEdgesTest::imageKeepsNoMore);
    }

    private static void imageKeepsFaults() {
        WorstVoice x = Due.town("s5555,b5555;0");
        x.practise(0);
        x.practise(1);
        x.image();
        x.practise(0);
        x.practise(1);
        due("weeks", x.restore(), 2);
        faultsAre(x, 0, "the singer", 4, 4, 4, 4);
        faultsAre(x, 1, "the boy", 6, 6, 6, 6);
        due("count(4)", x.count(4), 2);
        due("practice goes on from there", x.practise(0), 12);
        due("weeks go on from there", x.count(4), 3);
    }

    private static void imageKeepsColds() {
        WorstVoice x = Due.town(SINGERS[4] + ";0");
        x.cold(0, true);
        x.cold(3, true);
        x.image();
        x.cold(0, false);
        x.cold(1, true);
        x.restore();
        for (int one = 0; one < MOST; one++) {
            due("cold of " + one, x.singer(one, 2), one == 0 || one == 3 ? 1 : 0);
        }
    }

    private static void imageKeepsAisles() {
        WorstVoice x = Due.town(SINGERS[4] + ";0");
        x.aisle(0, true);
        x.aisle(3, true);
        x.image();
        x.aisle(3, false);
        x.aisle(2, true);
        x.restore();
        for (int one = 0; one < MOST; one++) {
            due("left of " + one, x.singer(one, 3), one == 0 || one == 3 ? 1 : 0);
        }
    }

    private static void imageKeepsHoney() {
        WorstVoice x = Due.town(SINGERS[4] + ";0");
        x.honey(0, 9);
        x.honey(3, 1);
        x.image();
        x.honey(0, 0);
        x.honey(1, 9);
        x.honey(3, 2);
        x.restore();
        due("honey of 0", x.singer(0, 4), 9);
        due("honey of 1", x.singer(1, 4), 0);
        due("honey of 2", x.singer(2, 4), 0);
        due("honey of 3", x.singer(3, 4), 1);
        due("honey of all", x.count(3), 10);
    }

    private static void imageKeepsHeard() {
        WorstVoice x = Due.town("s1000,s0100,s0010;01");
        x.image();
        for (int many = 0; many < 8; many++) {
            x.hear(0, 0, 1, true);
        }
        x.restore();
        due("nothing was heard", x.count(5), 0);
        due("nothing was heard of her", x.widow(0, 3), 15);
        for (int many = 1; many <= 7; many++) {
            x.hear(0, 0, 1, true);
        }
        x.hear(1, 2, 1, false);
        x.image();
        x.forget();
        x.hear(0, 1, 0, false);
        for (int many = 2; many <= 8; many++) {
            x.hear(1, 1, 0, true);
        }
        x.restore();
        due("eight were heard", x.count(5), 8);
        due("what was heard of widow 0", x.widow(0, 3), 1);
        due("what was heard of widow 1", x.widow(1, 3), 1 + 2 + 8);
        due("it is full", x.hear(0, 0, 1, true), -104);
    }

    private static void imageKeepsNoMore() {
        WorstVoice x = Due.town("s1000,s0100;01");
        x.image();
        Due.write(x, "s12");
        x.need(0, 0);
        x.restore();
        due("letters", x.count(6), 3);
        due("towns read", x.count(7), 1);
        due("needs done", x.count(8), 1);
    }
}
