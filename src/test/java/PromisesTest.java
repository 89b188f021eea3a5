/** Each promise by hand: ordinary inputs, the edges that the document names, and wrong inputs. */
public final class PromisesTest {
    private static final int NONE = -1;
    private static final int UNKNOWN = -101;
    private static final int OUTSIDE = -102;
    private static final int STATE = -103;
    private static final int FULL = -104;
    private static final int[] WILD = {-1, Integer.MIN_VALUE, Integer.MAX_VALUE};

    /**
     * BAD are here: 0 (singer) 4 3 2 1; 1 (tenor) 2 0 2 0; 2 (boy) 1 0 0 18; 3 (deaf) 9 2 3 4; so that widows 0
     * to 3 are for 3, 0, 3, 2.
     */
    private static final String FOUR = "s4321,t5020,b1009,d1234;0123";
    private static final String TWO = "s1234,c9876;31";

    private static final Due DUE = new Due();

    public static void main(String[] args) {
        newObject();
        letter();
        blank();
        fault();
        town();
        townIsAsAtFirst();
        singer();
        badByKind();
        badByColdAisleHoney();
        worst();
        as();
        widow();
        mindsAndAsk();
        wince();
        cold();
        aisle();
        honey();
        practise();
        mayor();
        need();
        needOfLikeOnes();
        needWithHoneyBefore();
        needIsCounted();
        hear();
        forget();
        years();
        yearsRefusals();
        image();
        restore();
        imageIsGone();
        count();
        digest();
        refusalsChangeNothing();
        DUE.end();
    }

    private static void due(String call, long got, long want) {
        DUE.due(call, got, want);
    }

    private static void newObject() {
        WorstVoice x = new WorstVoice();
        for (int what = 0; what <= 8; what++) {
            due("1: count(" + what + ")", x.count(what), 0);
        }
        due("1: singer(0, 0)", x.singer(0, 0), UNKNOWN);
        due("1: as(0, 0)", x.as(0, 0), UNKNOWN);
        due("1: widow(0, 0)", x.widow(0, 0), UNKNOWN);
        due("1: wince(0, 0)", x.wince(0, 0), UNKNOWN);
        due("1: cold(0, true)", x.cold(0, true), UNKNOWN);
        due("1: aisle(0, true)", x.aisle(0, true), UNKNOWN);
        due("1: honey(0, 1)", x.honey(0, 1), UNKNOWN);
        due("1: practise(0)", x.practise(0), UNKNOWN);
        due("1: mayor()", x.mayor(), STATE);
        due("1: need(0, 0)", x.need(0, 0), UNKNOWN);
        due("1: hear(0, 0, 1, true)", x.hear(0, 0, 1, true), UNKNOWN);
        due("1: forget()", x.forget(), 0);
        due("1: years(1, 0, 0)", x.years(1, 0, 0), STATE);
        due("1: image()", x.image(), STATE);
        due("1: restore()", x.restore(), STATE);
        due("1: town()", x.town(), STATE);
        due("1: fault()", x.fault(), 0);
        due("1: blank()", x.blank(), 0);
        due("1: digest()", x.digest(), 947L * 31 * 31 * 31 * 31 * 31 * 31 * 31 * 31 * 31);
    }

    private static void letter() {
        WorstVoice x = new WorstVoice();
        due("2: letter(1)", x.letter(1), 1);
        due("2: letter(126)", x.letter(126), 2);
        for (int wrong : new int[] {0, 127, -1, Integer.MIN_VALUE, Integer.MAX_VALUE}) {
            due("2: letter(" + wrong + ")", x.letter(wrong), OUTSIDE);
        }
        for (int many = 3; many <= 32; many++) {
            due("2: letter " + many, x.letter(115), many);
        }
        due("2: letter 33", x.letter(115), FULL);
        due("2: OUTSIDE before FULL", x.letter(0), OUTSIDE);
        due("2: the page as it was", x.count(6), 32);
        x.blank();
        due("2: behind a blank one", x.letter(115), 1);
    }

    private static void blank() {
        WorstVoice x = Due.page("s12");
        due("3: blank()", x.blank(), 3);
        due("3: blank() again", x.blank(), 0);
        due("3: count(6)", x.count(6), 0);
        Due.write(x, TWO);
        due("3: what was written before is gone", x.town(), 2);
    }

    private static void fault() {
        String four = "s1234,t0000,b9999,d5678";
        String[] right = {"", "s", "t", "b", "d", "c", "s0", "s09", "s1234,", "s1234,t0000", "s1234,t0000;",
            "s1234,t0000;0", "s1234,t0000;01230", "s1234,t0000,c", four, four + ";", four + ";33333"};
        for (String text : right) {
            due("4: fault() of " + text, Due.page(text).fault(), text.length());
        }
        faultAt("x", 0);
        faultAt("S1234", 0);
        faultAt(";", 0);
        faultAt(",", 0);
        faultAt("0", 0);
        faultAt("\u0001", 0);
        faultAt("ss", 1);
        faultAt("s/", 1);
        faultAt("s12:", 3);
        faultAt("s123,", 4);
        faultAt("s12345", 5);
        faultAt("s1234;", 5);
        faultAt("s1234s", 5);
        faultAt("s1234,,", 6);
        faultAt("s1234,;", 6);
        faultAt("s1234,e0000", 6);
        faultAt("s1234,t0000;;", 12);
        faultAt("s1234,t0000;4", 12);
        faultAt("s1234,t0000;/", 12);
        faultAt("s1234,t0000;0,", 13);
        faultAt("s1234,t0000;012301", 17);
        faultAt(four + ",", 23);
        faultAt(four + ";012301", 29);
        faultAt("x,;y", 0);
        WorstVoice x = Due.page("s12x");
        x.fault();
        due("4: fault() changes nothing", x.count(6), 4);
    }

    private static void faultAt(String text, int place) {
        due("4: fault() of " + text, Due.page(text).fault(), place);
    }

    private static void town() {
        due("5: two", Due.page(TWO).town(), 2);
        due("5: three", Due.page("s1234,c9876,b0000;0").town(), 3);
        due("5: four", Due.page(FOUR).town(), 4);
        String[] none = {"", "s", "s1234", "s1234;0", "s1234,t0000", "s1234,t0000;", "s1234,t0000;x",
            "s1234,t0000;4", "s1234,t0000;012301", "s1234,t0000;0 ", "s1234,t0000,", "s1234,t0000,b0000,d0000,c0000;0"};
        for (String text : none) {
            WorstVoice x = Due.page(text);
            due("5: town() of " + text, x.town(), STATE);
            due("5: the page stays, " + text, x.count(6), Math.min(text.length(), 32));
            due("5: none was read, " + text, x.count(7), 0);
        }
        WorstVoice x = Due.page(FOUR);
        x.town();
        due("5: the page is empty", x.count(6), 0);
        due("5: how often", x.count(7), 1);
        Due.write(x, TWO);
        due("5: another", x.town(), 2);
        due("5: how often, two", x.count(7), 2);
        due("5: widows", x.count(1), 2);
        due("5: no third singer", x.singer(2, 0), UNKNOWN);
        due("5: kind", x.singer(1, 0), 4);
        due("5: fault", x.singer(1, 12), 7);
        due("5: widow", x.widow(0, 0), 3);
        due("5: no third widow", x.widow(2, 0), UNKNOWN);
    }

    private static void townIsAsAtFirst() {
        WorstVoice x = Due.town(TWO);
        x.cold(0, true);
        x.aisle(1, true);
        x.honey(1, 5);
        x.practise(0);
        x.hear(0, 0, 1, true);
        Due.write(x, "s1234,c9876;31x");
        due("5: a wrong one", x.town(), STATE);
        due("5: all stays by a wrong one", x.count(2) + x.count(3) + x.count(4) + x.count(5), 1 + 5 + 1 + 1);
        x.blank();
        Due.write(x, TWO);
        x.town();
        for (int what = 2; what <= 5; what++) {
            due("5: as at first, count(" + what + ")", x.count(what), 0);
        }
        due("5: no cold", x.singer(0, 2), 0);
        due("5: on the right", x.singer(1, 3), 0);
        due("5: no honey", x.singer(1, 4), 0);
        due("5: fault as told", x.singer(0, 13), 4);
    }

    private static void singer() {
        WorstVoice x = Due.town(FOUR);
        int[] votes = {1, 0, 1, 2};
        int[][] faults = {{4, 3, 2, 1}, {5, 0, 2, 0}, {1, 0, 0, 9}, {1, 2, 3, 4}};
        int[][] bad = {{4, 3, 2, 1}, {2, 0, 2, 0}, {1, 0, 0, 18}, {9, 2, 3, 4}};
        for (int one = 0; one < 4; one++) {
            due("6: kind of " + one, x.singer(one, 0), one);
            due("6: votes of " + one, x.singer(one, 1), votes[one]);
            for (int fault = 0; fault < 4; fault++) {
                due("6: fault of " + one, x.singer(one, 10 + fault), faults[one][fault]);
                due("6: bad of " + one, x.singer(one, 20 + fault), bad[one][fault]);
            }
        }
        due("6: chorister", Due.town(TWO).singer(1, 0), 4);
        x.cold(2, true);
        x.aisle(1, true);
        x.honey(3, 7);
        due("6: cold", x.singer(2, 2), 1);
        due("6: no cold", x.singer(1, 2), 0);
        due("6: left", x.singer(1, 3), 1);
        due("6: right", x.singer(2, 3), 0);
        due("6: honey", x.singer(3, 4), 7);
        due("6: no honey", x.singer(2, 4), 0);
        for (int wrong : new int[] {-1, 7, 9, 14, 19, 24, Integer.MIN_VALUE, Integer.MAX_VALUE}) {
            due("6: singer(0, " + wrong + ")", x.singer(0, wrong), OUTSIDE);
            due("6: UNKNOWN before OUTSIDE", x.singer(4, wrong), UNKNOWN);
        }
        for (int wrong : WILD) {
            due("6: singer(" + wrong + ", 0)", x.singer(wrong, 0), UNKNOWN);
        }
    }

    private static void badByKind() {
        badAre("s9753", 9, 7, 5, 3);
        badAre("t9753", 4, 7, 5, 3);
        badAre("b9753", 9, 7, 5, 6);
        badAre("b0009", 0, 0, 0, 18);
        badAre("d0753", 9, 7, 5, 3);
        badAre("c9753", 4, 3, 5, 3);
        badAre("c1199", 0, 0, 9, 9);
    }

    private static void badAre(String one, int pitch, int breath, int words, int feeling) {
        badOf(Due.town("s0000," + one + ";0"), one, pitch, breath, words, feeling);
    }

    private static void badOf(WorstVoice x, String named, int pitch, int breath, int words, int feeling) {
        due("terms: pitch of " + named, x.singer(1, 20), pitch);
        due("terms: breath of " + named, x.singer(1, 21), breath);
        due("terms: words of " + named, x.singer(1, 22), words);
        due("terms: feeling of " + named, x.singer(1, 23), feeling);
    }

    private static void badByColdAisleHoney() {
        WorstVoice x = Due.town("s0000,d0102;0");
        badOf(x, "at first", 9, 1, 0, 2);
        x.cold(1, true);
        badOf(x, "with a cold", 12, 4, 0, 2);
        x.aisle(1, true);
        badOf(x, "with a cold, left", 11, 3, 0, 1);
        x.honey(1, 2);
        badOf(x, "with a cold, left, 2 honey", 9, 1, 0, 0);
        x.cold(1, false);
        badOf(x, "left, 2 honey", 6, 0, 0, 0);
        x.honey(1, 9);
        badOf(x, "left, 9 honey", 0, 0, 0, 0);
        x.aisle(1, false);
        x.cold(1, true);
        badOf(x, "with a cold, 9 honey", 3, 0, 0, 0);
        WorstVoice c = Due.town("s0000,c5500;0");
        c.cold(1, true);
        badOf(c, "a chorister's cold is not halved", 5, 5, 0, 0);
        WorstVoice b = Due.town("s0000,b0005;0");
        b.honey(1, 4);
        badOf(b, "a boy's honey is not doubled", 0, 0, 0, 6);
    }

    private static void worst() {
        WorstVoice x = Due.town(FOUR);
        int[] places = {0, 0, 0, 2};
        int[] votes = {1, 0, 1, 3};
        for (int one = 0; one < 4; one++) {
            due("6: worst of " + one, x.singer(one, 5), places[one]);
            due("6: for him by that, " + one, x.singer(one, 6), votes[one]);
        }
        x.cold(3, true);
        x.aisle(3, true);
        long before = x.digest();
        due("6: worst whatever he has now", x.singer(3, 5), 2);
        due("6: for him by that, whatever he has now", x.singer(3, 6), 3);
        due("6: he still stands left", x.singer(3, 3), 1);
        due("6: he still has a cold", x.singer(3, 2), 1);
        due("6: asking changes nothing", x.digest(), before);
        x.honey(3, 9);
        due("6: all others as they are", x.singer(0, 6), 3);
        x.cold(3, false);
        x.aisle(3, false);
        due("6: one with honey is worst by a cold", x.singer(3, 6), 0);
        WorstVoice two = Due.town("s0000,s0000;00000");
        due("6: of like ones the least", two.singer(0, 5), 0);
        due("6: all are for him", two.singer(0, 6), 5);
        due("6: a cold makes one worse", two.singer(1, 5), 2);
        due("6: all are for him with a cold", two.singer(1, 6), 5);
    }

    private static void as() {
        WorstVoice x = Due.town("s0000,t0000,b0000,c0000;0");
        WorstVoice d = Due.town("d0000,c0000;0");
        boolean[][] is = {{true, false, false, false, false}, {true, true, false, false, false},
            {true, false, true, false, false}, {true, true, false, false, true}};
        for (int one = 0; one < 4; one++) {
            for (int kind = 0; kind < 5; kind++) {
                due("7: as(" + one + ", " + kind + ")", x.as(one, kind), is[one][kind] ? one : NONE);
            }
        }
        for (int kind = 0; kind < 5; kind++) {
            due("7: a deaf one as " + kind, d.as(0, kind), kind == 0 || kind == 3 ? 0 : NONE);
        }
        due("7: as(0, 5)", x.as(0, 5), OUTSIDE);
        due("7: as(4, 5)", x.as(4, 5), UNKNOWN);
        for (int wrong : WILD) {
            due("7: as(0, " + wrong + ")", x.as(0, wrong), OUTSIDE);
            due("7: as(" + wrong + ", 0)", x.as(wrong, 0), UNKNOWN);
        }
    }

    private static void widow() {
        WorstVoice x = Due.town(FOUR);
        int[] favourites = {3, 0, 3, 2};
        int[] winces = {9, 3, 3, 18};
        for (int one = 0; one < 4; one++) {
            due("8: minds of " + one, x.widow(one, 0), one);
            due("8: for whom is " + one, x.widow(one, 1), favourites[one]);
            due("8: how much winces " + one, x.widow(one, 2), winces[one]);
            due("8: can mind all, " + one, x.widow(one, 3), 15);
        }
        WorstVoice like = Due.town("s0070,s0070,s0080,b0080;23");
        due("8: of like ones the least", like.widow(0, 1), 2);
        due("8: of all 0 the least", like.widow(1, 1), 0);
        due("8: she winces not at all", like.widow(1, 2), 0);
        due("8: widow(0, 5)", x.widow(0, 5), OUTSIDE);
        due("8: widow(4, 5)", x.widow(4, 5), UNKNOWN);
        for (int wrong : WILD) {
            due("8: widow(0, " + wrong + ")", x.widow(0, wrong), OUTSIDE);
            due("8: widow(" + wrong + ", 0)", x.widow(wrong, 0), UNKNOWN);
        }
    }

    private static void mindsAndAsk() {
        WorstVoice x = Due.town(FOUR);
        due("8: ask, halves of four", x.widow(0, 4), 4 * 1 + 2);
        x.hear(0, 1, 2, true);
        due("8: minds pitch or words", x.widow(0, 3), 1 + 4);
        due("8: another widow's are her own", x.widow(1, 3), 15);
        due("8: ask, one of two", x.widow(0, 4), 1);
        x.hear(0, 0, 1, false);
        due("8: minds words", x.widow(0, 3), 4);
        due("8: ask where one is left", x.widow(0, 4), 1);
        x.hear(0, 3, 2, false);
        due("8: minds nothing", x.widow(0, 3), 0);
        due("8: ask where nothing is left", x.widow(0, 4), NONE);
        x.honey(3, 9);
        due("8: by how all are bad now", x.widow(0, 3), 4);
        x.honey(3, 0);
        due("8: by how all are bad now, again", x.widow(0, 3), 0);
        x.forget();
        due("8: forgotten", x.widow(0, 3), 15);
        x.hear(2, 0, 3, true);
        due("8: minds breath, whatever she does mind", x.widow(2, 3), 2);
        WorstVoice like = Due.town("s0000,s0000;0");
        due("8: ask, none tells more", like.widow(0, 4), 1);
        WorstVoice back = Due.town("s0000,s1100;0");
        due("8: ask, the second first", back.widow(0, 4), 4);
        WorstVoice equal = Due.town("s5555,s5550,s5500,s5000;0");
        due("8: like bad is not more", equal.widow(0, 4), 2);
    }

    private static void wince() {
        WorstVoice x = Due.town("s4321,t5020,b1009,c8642;310");
        int[][] winces = {{1, 0, 18, 2}, {3, 0, 0, 3}, {4, 2, 1, 4}};
        for (int widow = 0; widow < 3; widow++) {
            for (int one = 0; one < 4; one++) {
                due("9: wince(" + widow + ", " + one + ")", x.wince(widow, one), winces[widow][one]);
            }
        }
        x.cold(3, true);
        due("9: with a cold", x.wince(1, 3), 6);
        due("9: wince(3, 0)", x.wince(3, 0), UNKNOWN);
        due("9: wince(0, 4)", x.wince(0, 4), UNKNOWN);
        for (int wrong : WILD) {
            due("9: wince(0, " + wrong + ")", x.wince(0, wrong), UNKNOWN);
            due("9: wince(" + wrong + ", 0)", x.wince(wrong, 0), UNKNOWN);
        }
    }

    private static void cold() {
        WorstVoice x = Due.town(TWO);
        due("10: cold(1, false)", x.cold(1, false), 0);
        due("10: cold(1, true)", x.cold(1, true), 0);
        due("10: cold(1, true) again", x.cold(1, true), 1);
        due("10: only he", x.singer(0, 2), 0);
        due("10: cold(1, false) then", x.cold(1, false), 1);
        due("10: none any more", x.singer(1, 2), 0);
        due("10: cold(2, true)", x.cold(2, true), UNKNOWN);
        for (int wrong : WILD) {
            due("10: cold(" + wrong + ", true)", x.cold(wrong, true), UNKNOWN);
        }
    }

    private static void aisle() {
        WorstVoice x = Due.town(TWO);
        due("11: aisle(1, false)", x.aisle(1, false), 0);
        due("11: aisle(1, true)", x.aisle(1, true), 0);
        due("11: aisle(1, true) again", x.aisle(1, true), 1);
        due("11: only he", x.singer(0, 3), 0);
        due("11: aisle(1, false) then", x.aisle(1, false), 1);
        due("11: on the right again", x.singer(1, 3), 0);
        due("11: aisle(2, true)", x.aisle(2, true), UNKNOWN);
        for (int wrong : WILD) {
            due("11: aisle(" + wrong + ", true)", x.aisle(wrong, true), UNKNOWN);
        }
    }

    private static void honey() {
        WorstVoice x = Due.town(TWO);
        due("12: honey(1, 9)", x.honey(1, 9), 0);
        due("12: honey(1, 4)", x.honey(1, 4), 9);
        due("12: only he", x.singer(0, 4), 0);
        due("12: honey(1, 0)", x.honey(1, 0), 4);
        due("12: honey(1, 10)", x.honey(1, 10), OUTSIDE);
        due("12: honey(2, 10)", x.honey(2, 10), UNKNOWN);
        for (int wrong : WILD) {
            due("12: honey(0, " + wrong + ")", x.honey(0, wrong), OUTSIDE);
            due("12: honey(" + wrong + ", 0)", x.honey(wrong, 0), UNKNOWN);
        }
        due("12: none by refusals", x.count(3), 0);
    }

    private static void practise() {
        WorstVoice x = Due.town("s4310,b7890,t1111,d0009;0");
        due("13: a singer", x.practise(0), 3 + 2);
        due("13: a singer again", x.practise(0), 2 + 1);
        due("13: a boy", x.practise(1), 8 + 9 + 9 + 1);
        due("13: a boy again", x.practise(1), 9 + 9 + 9 + 2);
        due("13: a tenor", x.practise(2), 0);
        due("13: a tenor again", x.practise(2), 0);
        due("13: a deaf one", x.practise(3), 8);
        due("13: fault 0", x.singer(0, 10), 2);
        due("13: fault 2", x.singer(0, 12), 0);
        due("13: bad by that", x.singer(1, 23), 4);
        due("13: weeks of all, of nothing too", x.count(4), 7);
        due("13: a chorister", Due.town(TWO).practise(1), 8 + 7 + 6 + 5);
        due("13: practise(4)", x.practise(4), UNKNOWN);
        for (int wrong : WILD) {
            due("13: practise(" + wrong + ")", x.practise(wrong), UNKNOWN);
        }
        due("13: no weeks by refusals", x.count(4), 7);
    }

    private static void mayor() {
        due("14: most", Due.town(FOUR).mayor(), 3);
        due("14: of like ones the least", Due.town("s0000,s1000,s0100;01").mayor(), 1);
        due("14: most widows, not most winces", Due.town("b0009,s1100;013").mayor(), 1);
        due("14: all like", Due.town("s0000,s0000;0").mayor(), 0);
        due("14: no town", Due.page(FOUR).mayor(), STATE);
        WorstVoice x = Due.town(FOUR);
        x.honey(3, 9);
        due("14: honey is poison", x.mayor(), 0);
    }

    private static void need() {
        WorstVoice x = Due.town("s3000,s2300,s0030;01");
        due("15: how little", x.need(1, 0), 2);
        due("15: singer 0", x.need(1, 10), 2);
        due("15: himself", x.need(1, 11), 0);
        due("15: singer 2", x.need(1, 12), 0);
        due("15: no singer 3", x.need(1, 13), NONE);
        due("15: is mayor, how little", x.need(0, 0), 0);
        due("15: is mayor, each", x.need(0, 11), 0);
        due("15: is mayor, no singer 3", x.need(0, 13), NONE);
        due("15: never", x.need(2, 0), NONE);
        due("15: never, singer 0", x.need(2, 10), NONE);
        due("15: never, himself", x.need(2, 12), NONE);
        due("15: need(0, 1)", x.need(0, 1), OUTSIDE);
        due("15: need(0, 9)", x.need(0, 9), OUTSIDE);
        due("15: need(0, 14)", x.need(0, 14), OUTSIDE);
        due("15: need(3, 14)", x.need(3, 14), UNKNOWN);
        for (int wrong : WILD) {
            due("15: need(0, " + wrong + ")", x.need(0, wrong), OUTSIDE);
            due("15: need(" + wrong + ", 0)", x.need(wrong, 0), UNKNOWN);
        }
        due("15: how often", x.count(8), 11);
        due("15: nobody has honey by that", x.count(3), 0);
    }

    private static void needOfLikeOnes() {
        WorstVoice x = Due.town("s5000,s0500,s4440;012");
        due("15: like ones, how little", x.need(2, 0), 2);
        due("15: like ones, the first has less", x.need(2, 10), 0);
        due("15: like ones, the second", x.need(2, 11), 2);
        WorstVoice y = Due.town("s5000,s0700,s4440;012");
        due("15: how little goes ahead of the first", y.need(2, 0), 2);
        due("15: how little goes ahead, singer 0", y.need(2, 10), 2);
        due("15: how little goes ahead, singer 1", y.need(2, 11), 0);
        WorstVoice two = Due.town("s0080,s7000,s0700,s6660;012");
        due("15: two widows more", two.need(3, 0), 4);
        due("15: two widows more, singer 0", two.need(3, 10), 0);
        due("15: two widows more, singer 1", two.need(3, 11), 2);
        due("15: two widows more, singer 2", two.need(3, 12), 2);
        due("15: two widows more, himself", two.need(3, 13), 0);
        WorstVoice z = Due.town("s9000,s9000,s9000,s5000;0");
        due("15: all others", z.need(3, 0), 15);
        due("15: all others, singer 1", z.need(3, 11), 5);
        due("15: himself, who had to have some before", z.need(1, 11), 0);
        due("15: the first alone", z.need(1, 10), 1);
        WorstVoice last = Due.town("s9000,s1000,s2000,s8000;0");
        due("15: the last may be as bad as he", last.need(2, 0), 8 + 6);
        due("15: singer 0", last.need(2, 10), 8);
        due("15: singer 1 none", last.need(2, 11), 0);
        due("15: singer 3", last.need(2, 13), 6);
    }

    private static void needWithHoneyBefore() {
        WorstVoice x = Due.town("d0000,s1000;0");
        due("15: nine", x.need(1, 10), 9);
        x.honey(0, 1);
        due("15: nine in all", x.need(1, 10), 8);
        x.cold(0, true);
        due("15: no more than nine in all", x.need(1, 0), NONE);
        x.honey(0, 9);
        due("15: no more at all", x.need(1, 0), NONE);
        x.cold(0, false);
        due("15: no more is needed", x.need(1, 0), 0);
        x.honey(1, 1);
        due("15: his own honey stays", x.need(1, 0), NONE);
    }

    private static void needIsCounted() {
        WorstVoice x = Due.town("s3000,s2300,s0030;01");
        x.image();
        for (int often = 1; often <= 19; often++) {
            due("15: need " + often, x.need(often % 2 + 1, 0), often % 2 == 0 ? 2 : NONE);
            x.need(0, 5);
            x.need(7, 0);
            due("15: counted", x.count(8), often);
        }
        x.restore();
        Due.write(x, TWO);
        x.town();
        due("15: it counts on", x.count(8), 19);
        due("15: need 20", x.need(1, 0), 0);
        due("15: need 21", x.need(0, 0), STATE);
        due("15: OUTSIDE before STATE", x.need(0, 1), OUTSIDE);
        due("15: UNKNOWN before STATE", x.need(2, 0), UNKNOWN);
        due("15: twenty", x.count(8), 20);
    }

    private static void hear() {
        WorstVoice x = Due.town(FOUR);
        due("16: hear one", x.hear(0, 0, 1, true), 1);
        due("16: the same again", x.hear(0, 0, 1, true), 2);
        due("16: the other way", x.hear(0, 1, 0, false), 3);
        due("16: hear(4, 0, 1)", x.hear(4, 0, 1, true), UNKNOWN);
        due("16: hear(0, 4, 1)", x.hear(0, 4, 1, true), UNKNOWN);
        due("16: hear(0, 0, 4)", x.hear(0, 0, 4, true), UNKNOWN);
        due("16: hear(0, 2, 2)", x.hear(0, 2, 2, true), UNKNOWN);
        for (int wrong : WILD) {
            due("16: widow " + wrong, x.hear(wrong, 0, 1, false), UNKNOWN);
            due("16: a " + wrong, x.hear(0, wrong, 1, false), UNKNOWN);
            due("16: b " + wrong, x.hear(0, 0, wrong, false), UNKNOWN);
        }
        for (int many = 4; many <= 8; many++) {
            due("16: hear " + many, x.hear(3, 2, 0, true), many);
        }
        due("16: hear nine", x.hear(3, 2, 0, true), FULL);
        due("16: UNKNOWN before FULL", x.hear(3, 2, 2, true), UNKNOWN);
        due("16: eight", x.count(5), 8);
        due("16: what is heard counts", x.widow(3, 3), 8);
    }

    private static void forget() {
        WorstVoice x = Due.town(FOUR);
        due("17: forget() nothing", x.forget(), 0);
        x.hear(0, 0, 3, true);
        x.hear(1, 0, 3, true);
        due("17: forget() two", x.forget(), 2);
        due("17: forget() again", x.forget(), 0);
        due("17: count(5)", x.count(5), 0);
        due("17: minds all", x.widow(0, 3), 15);
        due("17: hear anew", x.hear(0, 0, 3, true), 1);
    }

    /**
     * From SEED 1 the DRAWS are 16838 5758, 10113 17515, 31051 5627, 23010 7419, 16212 4086: of two singers 0 0,
     * 1 1, 1 1, 0 1, 0 0; of three 2 1, 0 1, 1 2, 0 0, 0 0.
     */
    private static void years() {
        yearsAre("s0100,s0300;1", new int[][] {{1, 0}, {1, 1}, {2, 0}, {2, 1}, {2, 1}});
        yearsAre("s0100,s0100,b0100;1", new int[][] {{0, 1}, {0, 2}, {0, 2}, {0, 2}, {0, 2}});
        WorstVoice x = Due.town(TWO);
        due("18: seed, once", x.years(1, 1, 2), 377401575);
        due("18: seed, five times", x.years(5, 1, 2), 267834847);
        due("18: seed 0", x.years(1, 0, 2), 1406932606);
        due("18: greatest seed", x.years(1, Integer.MAX_VALUE, 2), 288979989);
        due("18: most times", x.years(60, 7, 2), 1977730447);
        x.cold(0, true);
        x.practise(1);
        due("18: practice and colds as they are", x.count(2) + x.count(4), 2);
        WorstVoice cold = Due.town("s0100,s0300;1");
        cold.cold(0, true);
        due("18: a cold before is none any more", cold.years(1, 1, 1), 1);
    }

    private static void yearsAre(String text, int[][] years) {
        WorstVoice x = Due.town(text);
        long before = x.digest();
        for (int times = 1; times <= years.length; times++) {
            due("18: how often by " + times, x.years(times, 1, 0), years[times - 1][0]);
            due("18: who by " + times, x.years(times, 1, 1), years[times - 1][1]);
        }
        due("18: as they would be", x.digest(), before);
    }

    private static void yearsRefusals() {
        WorstVoice x = Due.town(TWO);
        int[][] wrong = {{0, 1, 0}, {61, 1, 0}, {1, -1, 0}, {1, 1, -1}, {1, 1, 3}, {Integer.MIN_VALUE, 1, 0},
            {Integer.MAX_VALUE, 1, 0}, {1, Integer.MIN_VALUE, 0}, {1, 1, Integer.MIN_VALUE}, {1, 1, Integer.MAX_VALUE}};
        for (int[] one : wrong) {
            due("18: wrong " + one[0] + " " + one[1] + " " + one[2], x.years(one[0], one[1], one[2]), OUTSIDE);
            due("18: OUTSIDE before STATE", new WorstVoice().years(one[0], one[1], one[2]), OUTSIDE);
        }
        for (int what = 0; what <= 2; what++) {
            due("18: no town", new WorstVoice().years(60, 0, what), STATE);
        }
    }

    private static void image() {
        WorstVoice x = Due.town(TWO);
        due("19: no weeks", x.image(), 0);
        x.practise(0);
        x.practise(1);
        due("19: two weeks", x.image(), 2);
        x.practise(0);
        due("19: the latest", x.restore(), 2);
        due("19: no town", Due.page(TWO).image(), STATE);
    }

    private static void restore() {
        WorstVoice x = Due.town(FOUR);
        due("20: none was kept", x.restore(), STATE);
        x.cold(1, true);
        x.aisle(2, true);
        x.honey(3, 4);
        x.practise(2);
        x.practise(0);
        x.hear(0, 1, 2, true);
        x.hear(1, 2, 1, false);
        x.image();
        long before = x.digest();
        x.cold(1, false);
        x.aisle(2, false);
        x.honey(3, 0);
        x.practise(2);
        x.forget();
        x.hear(3, 2, 1, false);
        x.hear(3, 1, 0, true);
        x.letter('s');
        due("20: weeks of the image", x.restore(), 2);
        due("20: cold", x.singer(1, 2), 1);
        due("20: left", x.singer(2, 3), 1);
        due("20: honey", x.singer(3, 4), 4);
        due("20: fault", x.singer(0, 10), 3);
        due("20: heard", x.count(5), 2);
        due("20: what is heard", x.widow(0, 3), mindsIfFirstMore(x, 1, 2));
        due("20: no page is kept", x.count(6), 1);
        x.blank();
        due("20: all", x.digest(), before);
        x.practise(3);
        x.forget();
        due("20: once more", x.restore(), 2);
        due("20: all once more", x.digest(), before);
        x.need(0, 0);
        x.restore();
        due("20: need() counts on", x.count(8), 1);
    }

    private static int mindsIfFirstMore(WorstVoice x, int a, int b) {
        int bits = 0;
        for (int fault = 0; fault < 4; fault++) {
            bits += x.singer(a, 20 + fault) > x.singer(b, 20 + fault) ? 1 << fault : 0;
        }
        return bits;
    }

    private static void imageIsGone() {
        WorstVoice x = Due.town(TWO);
        x.image();
        due("20: a town that is none is not read", x.town(), STATE);
        due("20: so the image is there", x.restore(), 0);
        Due.write(x, TWO);
        due("20: before it is read", x.restore(), 0);
        x.town();
        due("20: a town of the same text", x.restore(), STATE);
        x.image();
        due("20: a new image", x.restore(), 0);
    }

    private static void count() {
        WorstVoice x = Due.town("s4321,t5020,b1009;01");
        x.cold(0, true);
        x.cold(2, true);
        x.honey(0, 4);
        x.honey(1, 9);
        x.practise(1);
        x.practise(1);
        x.practise(2);
        for (int many = 0; many < 4; many++) {
            x.hear(0, 0, 1, true);
        }
        Due.write(x, "s0000");
        x.need(0, 0);
        int[] counts = {3, 2, 2, 13, 3, 4, 5, 1, 1};
        for (int what = 0; what < counts.length; what++) {
            due("21: count(" + what + ")", x.count(what), counts[what]);
        }
        due("21: count(9)", x.count(9), OUTSIDE);
        for (int wrong : WILD) {
            due("21: count(" + wrong + ")", x.count(wrong), OUTSIDE);
        }
    }

    private static void digest() {
        WorstVoice x = Due.page("s1");
        long page = 947L * 31 + 's';
        page = page * 31 + '1';
        for (int count : new int[] {0, 0, 0, 0, 0, 0, 2, 0, 0}) {
            page = 31 * page + count;
        }
        due("22: without a town", x.digest(), page);
        x.blank();
        Due.write(x, "s1000,c0020;2");
        x.town();
        x.letter('t');
        x.cold(1, true);
        x.aisle(0, true);
        x.honey(0, 7);
        x.honey(1, 1);
        x.practise(0);
        x.hear(0, 1, 0, true);
        long[] told = {0, 0, 0, 1, 7, 0, 0, 0, 0, 0, 0, 0, 0, 0, 0,
            4, 1, 1, 0, 1, 0, 1, 0, 0, 2, 0, 2, 2, 1, 0,
            2, 1, 1, 7, 1, 0, 1,
            1,
            't',
            2, 1, 1, 8, 1, 1, 1, 1, 0};
        long h = 947;
        for (long number : told) {
            h = 31 * h + number;
        }
        due("22: with a town", x.digest(), h);
        due("22: it changes nothing", x.digest(), h);
        x.need(0, 0);
        due("22: need() counts", x.digest(), h + 1);
    }

    private static void refusalsChangeNothing() {
        WorstVoice x = Due.town(FOUR);
        x.cold(3, true);
        x.hear(0, 1, 2, true);
        x.letter('s');
        long before = x.digest();
        for (int wrong : new int[] {-1, 4, Integer.MIN_VALUE, Integer.MAX_VALUE}) {
            x.cold(wrong, false);
            x.aisle(wrong, true);
            x.honey(wrong, 3);
            x.honey(0, wrong == 4 ? 10 : wrong);
            x.practise(wrong);
            x.hear(wrong, 0, 1, true);
            x.hear(0, wrong, 1, true);
            x.hear(0, 0, wrong, true);
            x.need(wrong, 0);
            x.need(0, wrong);
            x.letter(wrong == 4 ? 0 : wrong);
            x.years(wrong == 4 ? 61 : wrong, 1, 0);
            x.restore();
            x.town();
        }
        due("refusals change nothing", x.digest(), before);
    }
}
