import java.util.ArrayList;
import java.util.List;
import java.util.function.Supplier;
import java.util.function.ToIntFunction;

/**
 * Each refused call in each kind of state: what it answers, which of several refusals is the first, and that it
 * changes nothing: of two objects in the same state one gets the refused call, and all that both answer then, for a
 * long while, is the same.
 */
public final class RefusalsTest {
    private static final int UNKNOWN = -101;
    private static final int OUTSIDE = -102;
    private static final int STATE = -103;
    private static final int FULL = -104;
    private static final int[] WILD = {-1, Integer.MIN_VALUE, Integer.MAX_VALUE};
    private static final int[] SINGER_WHATS = {0, 1, 2, 3, 4, 5, 6, 10, 11, 12, 13, 20, 21, 22, 23};

    private static final String SHORT = "s1200,t0210;01";
    private static final String LONG = "s4321,t5020,b1009,c1234;01233";

    private static final Due DUE = new Due();

    public static void main(String[] args) {
        List<Situation> situations = situations();
        DUE.test("all promises: each situation is as told", () -> situations.forEach(RefusalsTest::isAsTold));
        for (Situation situation : situations) {
            for (Refused one : refusedIn(situation)) {
                DUE.test("promise " + one.promise + ": " + one.call + " is refused and changes nothing, "
                    + situation.name, () -> isRefused(situation, one));
            }
        }
        DUE.test("promise 2: OUTSIDE, FULL", RefusalsTest::orderOfLetter);
        DUE.test("promise 6: UNKNOWN, OUTSIDE", RefusalsTest::orderOfSinger);
        DUE.test("promise 7: UNKNOWN, OUTSIDE", RefusalsTest::orderOfAs);
        DUE.test("promise 8: UNKNOWN, OUTSIDE", RefusalsTest::orderOfWidow);
        DUE.test("promise 12: UNKNOWN, OUTSIDE", RefusalsTest::orderOfHoney);
        DUE.test("promise 15: UNKNOWN, OUTSIDE, STATE", RefusalsTest::orderOfNeed);
        DUE.test("promise 16: UNKNOWN, FULL", RefusalsTest::orderOfHear);
        DUE.test("promise 18: OUTSIDE, STATE", RefusalsTest::orderOfYears);
        DUE.end();
    }

    /** A call that is refused, and by what. */
    private record Refused(int promise, String call, int due, ToIntFunction<WorstVoice> run) {
    }

    /** A state of an object: how it comes about, and what of it decides which calls are refused. */
    private record Situation(String name, Supplier<WorstVoice> make, int singers, int widows, boolean pageIsTown,
        boolean pageIsFull, boolean hasImage, boolean heardIsFull, boolean needsAreDone) {
    }

    // ---- the situations

    private static List<Situation> situations() {
        List<Situation> all = new ArrayList<>();
        all.add(new Situation("new", WorstVoice::new, 0, 0, false, false, false, false, false));
        all.add(new Situation("part of a page", () -> Due.page("s12x"), 0, 0, false, false, false, false, false));
        all.add(new Situation("a page that is not read", () -> Due.page(SHORT), 0, 0, true, false, false, false,
            false));
        all.add(new Situation("a full page", RefusalsTest::fullPage, 0, 0, false, true, false, false, false));
        all.add(new Situation("a short town", () -> Due.town(SHORT), 2, 2, false, false, false, false, false));
        all.add(new Situation("a long town", () -> Due.town(LONG), 4, 5, false, false, false, false, false));
        all.add(new Situation("a town with all", () -> withAll(SHORT), 2, 2, false, false, true, false, false));
        all.add(new Situation("a long town with all", () -> withAll(LONG), 4, 5, false, false, true, false, false));
        all.add(new Situation("all heard", RefusalsTest::allHeard, 4, 5, false, false, false, true, false));
        all.add(new Situation("all needs done", RefusalsTest::allNeedsDone, 4, 5, false, false, true, false, true));
        all.add(new Situation("an image gone", RefusalsTest::imageGone, 2, 2, false, false, false, false, false));
        all.add(new Situation("all full", RefusalsTest::allFull, 2, 2, false, true, true, true, true));
        return all;
    }

    private static WorstVoice fullPage() {
        WorstVoice x = Due.page(LONG);
        Due.write(x, "~\u0001~");
        return x;
    }

    private static WorstVoice withAll(String text) {
        WorstVoice x = Due.town(text);
        change(x, 0, 1);
        x.image();
        change(x, 1, 0);
        x.need(0, 0);
        Due.write(x, "s1");
        return x;
    }

    private static void change(WorstVoice x, int one, int other) {
        x.cold(one, true);
        x.cold(other, false);
        x.aisle(one, true);
        x.aisle(other, false);
        x.honey(one, 2);
        x.honey(other, 1);
        x.practise(one);
        x.hear(one, one, other, true);
    }

    private static WorstVoice allHeard() {
        WorstVoice x = Due.town(LONG);
        for (int many = 0; many < 8; many++) {
            x.hear(many % 5, many % 4, (many + 1) % 4, many % 3 == 0);
        }
        return x;
    }

    private static WorstVoice allNeedsDone() {
        WorstVoice x = Due.town(LONG);
        x.image();
        doAllNeeds(x);
        return x;
    }

    private static void doAllNeeds(WorstVoice x) {
        for (int often = 0; often < 20; often++) {
            x.need(0, 0);
        }
    }

    private static WorstVoice imageGone() {
        WorstVoice x = Due.town(SHORT);
        change(x, 0, 1);
        x.image();
        Due.write(x, SHORT);
        x.town();
        change(x, 1, 0);
        return x;
    }

    private static WorstVoice allFull() {
        WorstVoice x = Due.town(SHORT);
        change(x, 0, 1);
        x.image();
        doAllNeeds(x);
        for (int many = 1; many < 8; many++) {
            x.hear(many % 2, many % 2, 1 - many % 2, many % 3 == 0);
        }
        for (int many = 0; many < 32; many++) {
            x.letter(many + 1);
        }
        return x;
    }

    private static void isAsTold(Situation s) {
        DUE.due(s.name + ", singers", s.make.get().count(0), s.singers);
        DUE.due(s.name + ", widows", s.make.get().count(1), s.widows);
        DUE.due(s.name + ", the page is a town", s.make.get().town() > 0 ? 1 : 0, s.pageIsTown ? 1 : 0);
        DUE.due(s.name + ", the page is full", s.make.get().count(6) == 32 ? 1 : 0, s.pageIsFull ? 1 : 0);
        DUE.due(s.name + ", an image", s.make.get().restore() >= 0 ? 1 : 0, s.hasImage ? 1 : 0);
        DUE.due(s.name + ", heard", s.make.get().count(5) == 8 ? 1 : 0, s.heardIsFull ? 1 : 0);
        DUE.due(s.name + ", needs", s.make.get().count(8) == 20 ? 1 : 0, s.needsAreDone ? 1 : 0);
    }

    // ---- what is refused in a situation

    private static List<Refused> refusedIn(Situation s) {
        List<Refused> all = new ArrayList<>();
        refuseWhatever(all);
        for (int wild : WILD) {
            refuseSinger(all, wild);
            refuseWidow(all, wild);
        }
        for (int one = s.singers; one <= 4; one++) {
            refuseSinger(all, one);
        }
        for (int one = s.widows; one <= 5; one++) {
            refuseWidow(all, one);
        }
        for (int one = 0; one < s.singers; one++) {
            refuseOfSinger(all, one, s.needsAreDone);
        }
        for (int one = 0; one < s.widows; one++) {
            refuseOfWidow(all, one, s.heardIsFull);
        }
        if (s.singers == 0) {
            refuseWithoutTown(all);
        }
        if (!s.hasImage) {
            all.add(new Refused(20, "restore()", STATE, WorstVoice::restore));
        }
        if (!s.pageIsTown) {
            all.add(new Refused(5, "town()", STATE, WorstVoice::town));
        }
        for (int code : s.pageIsFull ? new int[] {1, 's', 126} : new int[0]) {
            all.add(new Refused(2, "letter(" + code + ")", FULL, x -> x.letter(code)));
        }
        return all;
    }

    private static void refuseWhatever(List<Refused> all) {
        for (int code : new int[] {0, 127, -1, Integer.MIN_VALUE, Integer.MAX_VALUE}) {
            all.add(new Refused(2, "letter(" + code + ")", OUTSIDE, x -> x.letter(code)));
        }
        for (int what : new int[] {-1, 9, Integer.MIN_VALUE, Integer.MAX_VALUE}) {
            all.add(new Refused(21, "count(" + what + ")", OUTSIDE, x -> x.count(what)));
        }
        int[][] years = {{0, 1, 0}, {61, 1, 0}, {-1, 1, 0}, {Integer.MIN_VALUE, 1, 0}, {Integer.MAX_VALUE, 1, 0},
            {1, -1, 0}, {60, Integer.MIN_VALUE, 2}, {1, 0, -1}, {60, 0, 3}, {1, 1, Integer.MIN_VALUE},
            {1, 1, Integer.MAX_VALUE}, {0, -1, 3}};
        for (int[] one : years) {
            all.add(new Refused(18, "years(" + one[0] + ", " + one[1] + ", " + one[2] + ")", OUTSIDE,
                x -> x.years(one[0], one[1], one[2])));
        }
    }

    /** A number that names no singer, where others are right, and where others are wrong, too. */
    private static void refuseSinger(List<Refused> all, int one) {
        String named = "(" + one;
        all.add(new Refused(6, "singer" + named + ", 0)", UNKNOWN, x -> x.singer(one, 0)));
        all.add(new Refused(6, "singer" + named + ", 7)", UNKNOWN, x -> x.singer(one, 7)));
        all.add(new Refused(7, "as" + named + ", 0)", UNKNOWN, x -> x.as(one, 0)));
        all.add(new Refused(7, "as" + named + ", 5)", UNKNOWN, x -> x.as(one, 5)));
        all.add(new Refused(9, "wince(0, " + one + ")", UNKNOWN, x -> x.wince(0, one)));
        all.add(new Refused(10, "cold" + named + ", true)", UNKNOWN, x -> x.cold(one, true)));
        all.add(new Refused(10, "cold" + named + ", false)", UNKNOWN, x -> x.cold(one, false)));
        all.add(new Refused(11, "aisle" + named + ", true)", UNKNOWN, x -> x.aisle(one, true)));
        all.add(new Refused(11, "aisle" + named + ", false)", UNKNOWN, x -> x.aisle(one, false)));
        all.add(new Refused(12, "honey" + named + ", 3)", UNKNOWN, x -> x.honey(one, 3)));
        all.add(new Refused(12, "honey" + named + ", 10)", UNKNOWN, x -> x.honey(one, 10)));
        all.add(new Refused(13, "practise" + named + ")", UNKNOWN, x -> x.practise(one)));
        all.add(new Refused(15, "need" + named + ", 0)", UNKNOWN, x -> x.need(one, 0)));
        all.add(new Refused(15, "need" + named + ", 1)", UNKNOWN, x -> x.need(one, 1)));
        all.add(new Refused(16, "hear(0, " + one + ", 1, true)", UNKNOWN, x -> x.hear(0, one, 1, true)));
        all.add(new Refused(16, "hear(0, 0, " + one + ", false)", UNKNOWN, x -> x.hear(0, 0, one, false)));
    }

    private static void refuseWidow(List<Refused> all, int one) {
        all.add(new Refused(8, "widow(" + one + ", 0)", UNKNOWN, x -> x.widow(one, 0)));
        all.add(new Refused(8, "widow(" + one + ", 5)", UNKNOWN, x -> x.widow(one, 5)));
        all.add(new Refused(9, "wince(" + one + ", 0)", UNKNOWN, x -> x.wince(one, 0)));
        all.add(new Refused(16, "hear(" + one + ", 0, 1, true)", UNKNOWN, x -> x.hear(one, 0, 1, true)));
    }

    private static void refuseOfSinger(List<Refused> all, int one, boolean needsAreDone) {
        for (int what : new int[] {-1, 7, 9, 14, 19, 24, Integer.MIN_VALUE, Integer.MAX_VALUE}) {
            all.add(new Refused(6, "singer(" + one + ", " + what + ")", OUTSIDE, x -> x.singer(one, what)));
        }
        for (int kind : new int[] {-1, 5, Integer.MIN_VALUE, Integer.MAX_VALUE}) {
            all.add(new Refused(7, "as(" + one + ", " + kind + ")", OUTSIDE, x -> x.as(one, kind)));
        }
        for (int honey : new int[] {-1, 10, Integer.MIN_VALUE, Integer.MAX_VALUE}) {
            all.add(new Refused(12, "honey(" + one + ", " + honey + ")", OUTSIDE, x -> x.honey(one, honey)));
        }
        for (int what : new int[] {-1, 1, 9, 14, Integer.MIN_VALUE, Integer.MAX_VALUE}) {
            all.add(new Refused(15, "need(" + one + ", " + what + ")", OUTSIDE, x -> x.need(one, what)));
        }
        for (int what : needsAreDone ? new int[] {0, 10, 11, 12, 13} : new int[0]) {
            all.add(new Refused(15, "need(" + one + ", " + what + ")", STATE, x -> x.need(one, what)));
        }
        all.add(new Refused(16, "hear(0, " + one + ", " + one + ", true)", UNKNOWN, x -> x.hear(0, one, one, true)));
        all.add(new Refused(16, "hear(0, " + one + ", " + one + ", false)", UNKNOWN, x -> x.hear(0, one, one, false)));
    }

    private static void refuseOfWidow(List<Refused> all, int one, boolean heardIsFull) {
        for (int what : new int[] {-1, 5, Integer.MIN_VALUE, Integer.MAX_VALUE}) {
            all.add(new Refused(8, "widow(" + one + ", " + what + ")", OUTSIDE, x -> x.widow(one, what)));
        }
        if (heardIsFull) {
            all.add(new Refused(16, "hear(" + one + ", 0, 1, true)", FULL, x -> x.hear(one, 0, 1, true)));
            all.add(new Refused(16, "hear(" + one + ", 1, 0, false)", FULL, x -> x.hear(one, 1, 0, false)));
        }
    }

    private static void refuseWithoutTown(List<Refused> all) {
        all.add(new Refused(14, "mayor()", STATE, WorstVoice::mayor));
        all.add(new Refused(19, "image()", STATE, WorstVoice::image));
        for (int what = 0; what <= 2; what++) {
            int told = what;
            all.add(new Refused(18, "years(1, 0, " + what + ")", STATE, x -> x.years(1, 0, told)));
            all.add(new Refused(18, "years(60, MAX, " + what + ")", STATE,
                x -> x.years(60, Integer.MAX_VALUE, told)));
        }
    }

    // ---- a refused call changes nothing

    private static void isRefused(Situation situation, Refused one) {
        WorstVoice x = situation.make.get();
        WorstVoice twin = situation.make.get();
        DUE.due("it", one.run.applyAsInt(x), one.due);
        List<Long> got = allAnswers(x);
        List<Long> want = allAnswers(twin);
        int differs = 0;
        while (differs < want.size() && got.get(differs).equals(want.get(differs))) {
            differs++;
        }
        DUE.due("the first answer that differs then", differs, want.size());
    }

    /** What an object answers for a long while: all that it tells, and again after each kind of change. */
    private static List<Long> allAnswers(WorstVoice x) {
        List<Long> told = new ArrayList<>();
        tellAll(x, told);
        tellWhatWouldBe(x, told);
        tell(told, x.restore());
        tellAll(x, told);
        for (int many = 0; many < 9; many++) {
            tell(told, x.hear(0, many % 2, 1 - many % 2, many % 2 == 0));
        }
        for (int one = 0; one < 2; one++) {
            tell(told, x.honey(one, 4));
            tell(told, x.practise(one));
            tell(told, x.cold(one, true));
            tell(told, x.aisle(one, true));
        }
        told.add(x.digest());
        tell(told, x.forget());
        tell(told, x.fault());
        tell(told, x.town());
        tell(told, x.blank());
        Due.write(x, SHORT);
        tell(told, x.town());
        tell(told, x.restore());
        told.add(x.digest());
        tell(told, x.need(1, 10));
        tell(told, x.image());
        return told;
    }

    private static void tell(List<Long> told, int answer) {
        told.add((long) answer);
    }

    private static void tellAll(WorstVoice x, List<Long> told) {
        told.add(x.digest());
        tell(told, x.fault());
        tell(told, x.mayor());
        for (int what = 0; what <= 8; what++) {
            tell(told, x.count(what));
        }
        for (int one = 0; one < 4; one++) {
            tell(told, x.as(one, 1));
            for (int what : SINGER_WHATS) {
                tell(told, x.singer(one, what));
            }
        }
        for (int widow = 0; widow < 5; widow++) {
            for (int what = 0; what <= 4; what++) {
                tell(told, x.widow(widow, what));
            }
            tell(told, x.wince(widow, 1));
        }
    }

    private static void tellWhatWouldBe(WorstVoice x, List<Long> told) {
        tell(told, x.years(7, 3, 0));
        tell(told, x.years(7, 3, 1));
        tell(told, x.years(7, 3, 2));
        tell(told, x.need(0, 0));
        tell(told, x.need(1, 10));
    }

    // ---- of several refusals the first as told by each call

    private static void orderOfLetter() {
        WorstVoice full = fullPage();
        DUE.due("OUTSIDE of both, below", full.letter(0), OUTSIDE);
        DUE.due("OUTSIDE of both, above", full.letter(127), OUTSIDE);
        DUE.due("FULL alone", full.letter(1), FULL);
        DUE.due("OUTSIDE alone", new WorstVoice().letter(0), OUTSIDE);
    }

    private static void orderOfSinger() {
        WorstVoice x = Due.town(SHORT);
        DUE.due("UNKNOWN of both, below", x.singer(-1, -1), UNKNOWN);
        DUE.due("UNKNOWN of both, above", x.singer(2, 24), UNKNOWN);
        DUE.due("UNKNOWN alone", x.singer(2, 0), UNKNOWN);
        DUE.due("OUTSIDE alone", x.singer(1, 24), OUTSIDE);
        DUE.due("no town", new WorstVoice().singer(0, 24), UNKNOWN);
    }

    private static void orderOfAs() {
        WorstVoice x = Due.town(SHORT);
        DUE.due("UNKNOWN of both, below", x.as(-1, -1), UNKNOWN);
        DUE.due("UNKNOWN of both, above", x.as(2, 5), UNKNOWN);
        DUE.due("UNKNOWN alone", x.as(2, 0), UNKNOWN);
        DUE.due("OUTSIDE alone", x.as(1, 5), OUTSIDE);
        DUE.due("no town", new WorstVoice().as(0, 5), UNKNOWN);
    }

    private static void orderOfWidow() {
        WorstVoice x = Due.town(SHORT);
        DUE.due("UNKNOWN of both, below", x.widow(-1, -1), UNKNOWN);
        DUE.due("UNKNOWN of both, above", x.widow(2, 5), UNKNOWN);
        DUE.due("UNKNOWN alone", x.widow(2, 0), UNKNOWN);
        DUE.due("OUTSIDE alone", x.widow(1, 5), OUTSIDE);
        DUE.due("no town", new WorstVoice().widow(0, 5), UNKNOWN);
    }

    private static void orderOfHoney() {
        WorstVoice x = Due.town(SHORT);
        DUE.due("UNKNOWN of both, below", x.honey(-1, -1), UNKNOWN);
        DUE.due("UNKNOWN of both, above", x.honey(2, 10), UNKNOWN);
        DUE.due("UNKNOWN alone", x.honey(2, 9), UNKNOWN);
        DUE.due("OUTSIDE alone", x.honey(1, 10), OUTSIDE);
        DUE.due("no town", new WorstVoice().honey(0, 10), UNKNOWN);
    }

    private static void orderOfNeed() {
        WorstVoice x = Due.town(SHORT);
        DUE.due("UNKNOWN of two, below", x.need(-1, -1), UNKNOWN);
        DUE.due("UNKNOWN of two, above", x.need(2, 14), UNKNOWN);
        DUE.due("OUTSIDE alone", x.need(1, 14), OUTSIDE);
        doAllNeeds(x);
        DUE.due("UNKNOWN of all three", x.need(2, 14), UNKNOWN);
        DUE.due("UNKNOWN ahead of STATE", x.need(2, 0), UNKNOWN);
        DUE.due("OUTSIDE ahead of STATE", x.need(1, 14), OUTSIDE);
        DUE.due("STATE alone", x.need(1, 13), STATE);
        DUE.due("no town", new WorstVoice().need(0, 14), UNKNOWN);
    }

    private static void orderOfHear() {
        WorstVoice x = allHeard();
        DUE.due("UNKNOWN, widow, of both", x.hear(5, 0, 1, true), UNKNOWN);
        DUE.due("UNKNOWN, a, of both", x.hear(0, 4, 1, true), UNKNOWN);
        DUE.due("UNKNOWN, b, of both", x.hear(0, 0, 4, true), UNKNOWN);
        DUE.due("UNKNOWN, the same, of both", x.hear(0, 3, 3, true), UNKNOWN);
        DUE.due("FULL alone", x.hear(4, 3, 2, true), FULL);
        DUE.due("no town", new WorstVoice().hear(0, 0, 1, true), UNKNOWN);
    }

    private static void orderOfYears() {
        WorstVoice x = new WorstVoice();
        DUE.due("OUTSIDE, times, of both", x.years(0, 0, 0), OUTSIDE);
        DUE.due("OUTSIDE, times above, of both", x.years(61, 0, 0), OUTSIDE);
        DUE.due("OUTSIDE, seed, of both", x.years(1, -1, 0), OUTSIDE);
        DUE.due("OUTSIDE, what, of both", x.years(1, 0, 3), OUTSIDE);
        DUE.due("OUTSIDE, what below, of both", x.years(1, 0, -1), OUTSIDE);
        DUE.due("STATE alone", x.years(1, 0, 0), STATE);
        DUE.due("OUTSIDE alone", Due.town(SHORT).years(0, 0, 0), OUTSIDE);
    }
}
