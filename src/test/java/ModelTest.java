import java.util.ArrayList;
import java.util.List;
import java.util.regex.Matcher;
import java.util.regex.Pattern;

/**
 * Long runs of calls, drawn from a fixed seed, on the class and on a second telling of the document that goes other
 * ways about it: texts by a regular expression, HONEY by trying all, the IMAGE by copies of objects.
 */
public final class ModelTest {
    private static final int RUNS = 6000;
    private static final int CALLS = 512;
    private static final int NONE = -1;
    private static final int UNKNOWN = -101;
    private static final int OUTSIDE = -102;
    private static final int STATE = -103;
    private static final int FULL = -104;

    private static final Due DUE = new Due();
    private static long seed = 20260;

    private final WorstVoice real = new WorstVoice();
    private final Model model = new Model();
    private final StringBuilder calls = new StringBuilder();
    private int left = CALLS;

    public static void main(String[] args) {
        for (int run = 0; run < RUNS; run++) {
            new ModelTest().run(run);
        }
        DUE.end();
    }

    private void run(int number) {
        write(townText());
        both("town", 4, 0, 0, 0, false);
        // One run in eight asks for the digest at every call, so that what one call wrongly changes is seen at once.
        boolean digestEach = number % 8 == 0;
        while (left > 40) {
            int call = draw(24);
            if (call >= 22) {
                write(draw(3) == 0 ? anyText() : townText());
                both("town", 4, 0, 0, 0, false);
            } else {
                both("call", call, oneNumber(), oneNumber(), oneNumber(), draw(2) == 0);
            }
            if (digestEach) {
                both("digest", 21, 0, 0, 0, false);
            }
        }
        both("digest", 21, 0, 0, 0, false);
    }

    private void write(String text) {
        both("blank", 2, 0, 0, 0, false);
        for (int at = 0; at < text.length(); at++) {
            both("letter", 1, text.charAt(at), 0, 0, false);
        }
    }

    private void both(String name, int call, int a, int b, int c, boolean is) {
        left--;
        calls.append(' ').append(name).append('#').append(call).append('(').append(a).append(' ').append(b)
            .append(' ').append(c).append(' ').append(is).append(')');
        long got = ask(call, a, b, c, is);
        long want = model.ask(call, a, b, c, is);
        DUE.due(got == want ? "" : calls.toString(), got, want);
    }

    private long ask(int call, int a, int b, int c, boolean is) {
        switch (call) {
            case 1: return real.letter(a);
            case 2: return real.blank();
            case 3: return real.fault();
            case 4: return real.town();
            case 5: return real.singer(a, whatOf(b, c));
            case 6: return real.as(a, b);
            case 7: return real.widow(a, b);
            case 8: return real.wince(a, b);
            case 9: return real.cold(a, is);
            case 10: return real.aisle(a, is);
            case 11: return real.honey(a, b);
            case 12: return real.practise(a);
            case 13: return real.mayor();
            case 14: return real.need(a, is ? 0 : 10 + b);
            case 15: return real.hear(a, b, c, is);
            case 16: return real.forget();
            case 17: return real.years(timesOf(a), b * 7919, c);
            case 18: return real.image();
            case 19: return real.restore();
            case 20: return real.count(a);
            default: return real.digest();
        }
    }

    private static int whatOf(int b, int c) {
        return c % 3 * 10 + b;
    }

    private static int timesOf(int a) {
        return a > 2 ? a * 6 : a;
    }

    private static int oneNumber() {
        int way = draw(40);
        if (way == 0) {
            return Integer.MIN_VALUE;
        }
        if (way == 1) {
            return Integer.MAX_VALUE;
        }
        return way < 34 ? draw(4) : draw(16) - 2;
    }

    private static String townText() {
        StringBuilder text = new StringBuilder();
        int singers = 2 + draw(3);
        for (int one = 0; one < singers; one++) {
            text.append(one == 0 ? "" : ",").append("stbdc".charAt(draw(5)));
            for (int fault = 0; fault < 4; fault++) {
                text.append(draw(3) == 0 ? draw(10) : draw(4));
            }
        }
        text.append(';');
        for (int widows = 1 + draw(5); widows > 0; widows--) {
            text.append(draw(4));
        }
        return text.toString();
    }

    /** A town's text with a letter more, less or changed; often none then. */
    private static String anyText() {
        StringBuilder text = new StringBuilder(townText());
        int at = draw(text.length());
        switch (draw(4)) {
            case 0: text.deleteCharAt(at); break;
            case 1: text.insert(at, (char) (1 + draw(126))); break;
            case 2: text.setCharAt(at, "stbdc,;0123456789e:/".charAt(draw(20))); break;
            default: text.setLength(at);
        }
        return text.toString();
    }

    private static int draw(int ways) {
        seed = seed * 6364136223846793005L + 1442695040888963407L;
        return (int) ((seed >>> 33) % ways);
    }

    private static final class One {
        private char letter;
        private final int[] faults = new int[4];
        private boolean cold;
        private boolean left;
        private int honey;

        One copy() {
            One copy = new One();
            copy.letter = letter;
            System.arraycopy(faults, 0, copy.faults, 0, 4);
            copy.cold = cold;
            copy.left = left;
            copy.honey = honey;
            return copy;
        }

        int bad(int fault) {
            double much = faults[fault];
            if (fault == 0 && (letter == 't' || letter == 'c') || fault == 1 && letter == 'c') {
                much = Math.floor(much / 2);
            }
            if (fault == 3 && letter == 'b') {
                much = much + much;
            }
            if (fault == 0 && letter == 'd') {
                much = 9;
            }
            much += cold && fault < 2 ? 3 : 0;
            much -= left ? 1 : 0;
            much -= honey;
            return much < 0 ? 0 : (int) much;
        }

        int practise() {
            int sum = 0;
            for (int fault = 0; fault < 4; fault++) {
                int wanted = letter == 'b' ? 9 : 0;
                faults[fault] += Integer.compare(wanted, faults[fault]);
                sum += faults[fault];
            }
            return sum;
        }

        boolean isA(int kind) {
            return kind == 0 || "stbdc".charAt(kind) == letter || kind == 1 && letter == 'c';
        }
    }

    private record Told(int widow, int a, int b, boolean more) { }

    private static final class Model {
        private static final Pattern TOWN = Pattern.compile("[stbdc][0-9]{4}(,[stbdc][0-9]{4}){1,3};[0-3]{1,5}",
            Pattern.DOTALL);

        private String page = "";
        private List<One> ones = new ArrayList<>();
        private String minds = "";
        private List<Told> told = new ArrayList<>();
        private int weeks;
        private List<One> keptOnes;
        private List<Told> keptTold;
        private int keptWeeks;
        private int towns;
        private int needs;
        private int[] bestMore;

        long ask(int call, int a, int b, int c, boolean is) {
            switch (call) {
                case 1: return letter(a);
                case 2: return blank();
                case 3: return fault();
                case 4: return town();
                case 5: return singer(a, whatOf(b, c));
                case 6: return no(a) ? UNKNOWN : b < 0 || b > 4 ? OUTSIDE : ones.get(a).isA(b) ? a : NONE;
                case 7: return widow(a, b);
                case 8: return noWidow(a) || no(b) ? UNKNOWN : ones.get(b).bad(mind(a));
                case 9: return cold(a, is);
                case 10: return aisle(a, is);
                case 11: return honey(a, b);
                case 12: return practise(a);
                case 13: return ones.isEmpty() ? STATE : mayor(ones);
                case 14: return need(a, is ? 0 : 10 + b);
                case 15: return hear(new Told(a, b, c, is));
                case 16: return forget();
                case 17: return years(timesOf(a), b * 7919, c);
                case 18: return image();
                case 19: return restore();
                case 20: return count(a);
                default: return digest();
            }
        }

        private boolean no(int one) {
            return one < 0 || one >= ones.size();
        }

        private boolean noWidow(int one) {
            return one < 0 || one >= minds.length();
        }

        private int mind(int widow) {
            return minds.charAt(widow) - '0';
        }

        private static List<One> copy(List<One> from) {
            List<One> copy = new ArrayList<>();
            from.forEach(one -> copy.add(one.copy()));
            return copy;
        }

        private int letter(int code) {
            if (code < 1 || code > 126) {
                return OUTSIDE;
            }
            if (page.length() == 32) {
                return FULL;
            }
            page += (char) code;
            return page.length();
        }

        private int blank() {
            int had = page.length();
            page = "";
            return had;
        }

        private int fault() {
            for (int many = 1; many <= page.length(); many++) {
                Matcher matcher = TOWN.matcher(page.substring(0, many));
                if (!matcher.matches() && !matcher.hitEnd()) {
                    return many - 1;
                }
            }
            return page.length();
        }

        private int town() {
            if (!TOWN.matcher(page).matches()) {
                return STATE;
            }
            String[] halves = page.split(";");
            ones = new ArrayList<>();
            for (String text : halves[0].split(",")) {
                One one = new One();
                one.letter = text.charAt(0);
                for (int fault = 0; fault < 4; fault++) {
                    one.faults[fault] = Character.digit(text.charAt(1 + fault), 10);
                }
                ones.add(one);
            }
            minds = halves[1];
            told = new ArrayList<>();
            weeks = 0;
            keptOnes = null;
            towns++;
            page = "";
            return ones.size();
        }

        private int singer(int singer, int what) {
            if (no(singer)) {
                return UNKNOWN;
            }
            One one = ones.get(singer);
            switch (what) {
                case 0: return "stbdc".indexOf(one.letter);
                case 1: return votes(ones)[singer];
                case 2: return one.cold ? 1 : 0;
                case 3: return one.left ? 1 : 0;
                case 4: return one.honey;
                case 5: return worst(singer)[0];
                case 6: return worst(singer)[1];
                case 10: case 11: case 12: case 13: return one.faults[what - 10];
                case 20: case 21: case 22: case 23: return one.bad(what - 20);
                default: return OUTSIDE;
            }
        }

        private int[] votes(List<One> all) {
            int[] votes = new int[all.size()];
            for (int widow = 0; widow < minds.length(); widow++) {
                votes[favourite(all, widow)]++;
            }
            return votes;
        }

        private int favourite(List<One> all, int widow) {
            int most = all.stream().mapToInt(one -> one.bad(mind(widow))).max().orElse(0);
            int at = 0;
            while (all.get(at).bad(mind(widow)) != most) {
                at++;
            }
            return at;
        }

        private int mayor(List<One> all) {
            int[] votes = votes(all);
            int mayor = votes.length - 1;
            for (int at = votes.length - 1; at >= 0; at--) {
                mayor = votes[at] >= votes[mayor] ? at : mayor;
            }
            return mayor;
        }

        private int[] worst(int singer) {
            int[] worst = {3, NONE};
            for (int place = 3; place >= 0; place--) {
                List<One> all = copy(ones);
                all.get(singer).cold = place >= 2;
                all.get(singer).left = place % 2 == 1;
                int votes = votes(all)[singer];
                worst = votes >= worst[1] ? new int[] {place, votes} : worst;
            }
            return worst;
        }

        private int widow(int widow, int what) {
            if (noWidow(widow)) {
                return UNKNOWN;
            }
            switch (what) {
                case 0: return mind(widow);
                case 1: return favourite(ones, widow);
                case 2: return ones.get(favourite(ones, widow)).bad(mind(widow));
                case 3: return bits(canMind(widow));
                case 4: return askFor(canMind(widow));
                default: return OUTSIDE;
            }
        }

        private List<Integer> canMind(int widow) {
            List<Integer> can = new ArrayList<>(List.of(0, 1, 2, 3));
            for (Told one : told) {
                if (one.widow == widow) {
                    can.removeIf(fault -> isMore(one.a, one.b, fault) != one.more);
                }
            }
            return can;
        }

        private boolean isMore(int a, int b, int fault) {
            return ones.get(a).bad(fault) > ones.get(b).bad(fault);
        }

        private static int bits(List<Integer> faults) {
            return faults.stream().mapToInt(fault -> (int) Math.pow(2, fault)).sum();
        }

        private int askFor(List<Integer> can) {
            if (can.isEmpty()) {
                return NONE;
            }
            int best = NONE;
            long fewest = 99;
            for (int pair = 0; pair < 16; pair++) {
                int a = pair / 4;
                int b = pair % 4;
                if (a != b && !no(a) && !no(b)) {
                    long yes = can.stream().filter(fault -> isMore(a, b, fault)).count();
                    long atWorst = Math.max(yes, can.size() - yes);
                    best = atWorst < fewest ? pair : best;
                    fewest = Math.min(fewest, atWorst);
                }
            }
            return best;
        }

        private int cold(int singer, boolean is) {
            if (no(singer)) {
                return UNKNOWN;
            }
            boolean had = ones.get(singer).cold;
            ones.get(singer).cold = is;
            return had ? 1 : 0;
        }

        private int aisle(int singer, boolean is) {
            if (no(singer)) {
                return UNKNOWN;
            }
            boolean was = ones.get(singer).left;
            ones.get(singer).left = is;
            return was ? 1 : 0;
        }

        private int honey(int singer, int much) {
            if (no(singer)) {
                return UNKNOWN;
            }
            if (much < 0 || much > 9) {
                return OUTSIDE;
            }
            int had = ones.get(singer).honey;
            ones.get(singer).honey = much;
            return had;
        }

        private int practise(int singer) {
            if (no(singer)) {
                return UNKNOWN;
            }
            weeks++;
            return ones.get(singer).practise();
        }

        private int need(int singer, int what) {
            if (no(singer)) {
                return UNKNOWN;
            }
            if (what != 0 && (what < 10 || what > 13)) {
                return OUTSIDE;
            }
            if (needs == 20) {
                return STATE;
            }
            needs++;
            bestMore = null;
            tryMore(copy(ones), singer, 0, new int[4]);
            if (bestMore == null) {
                return NONE;
            }
            return what == 0 ? sum(bestMore) : no(what - 10) ? NONE : bestMore[what - 10];
        }

        private void tryMore(List<One> all, int singer, int at, int[] more) {
            if (at == all.size()) {
                if ((bestMore == null || sum(more) < sum(bestMore)) && mayor(all) == singer) {
                    bestMore = more.clone();
                }
                return;
            }
            int had = all.get(at).honey;
            for (int extra = 0; extra <= (at == singer ? 0 : 9 - had); extra++) {
                more[at] = extra;
                all.get(at).honey = had + extra;
                tryMore(all, singer, at + 1, more);
            }
            more[at] = 0;
            all.get(at).honey = had;
        }

        private static int sum(int[] more) {
            return more[0] + more[1] + more[2] + more[3];
        }

        private int hear(Told one) {
            if (noWidow(one.widow) || no(one.a) || no(one.b) || one.a == one.b) {
                return UNKNOWN;
            }
            if (told.size() == 8) {
                return FULL;
            }
            told.add(one);
            return told.size();
        }

        private int forget() {
            int had = told.size();
            told = new ArrayList<>();
            return had;
        }

        private int years(int times, int from, int what) {
            if (times < 1 || times > 60 || from < 0 || what < 0 || what > 2) {
                return OUTSIDE;
            }
            if (ones.isEmpty()) {
                return STATE;
            }
            List<One> all = copy(ones);
            long next = from;
            int often = 0;
            for (int year = 0; year < times; year++) {
                next = (1103515245L * next + 12345L) % 2147483648L;
                all.get((int) (next / 65536 % all.size())).practise();
                next = (1103515245L * next + 12345L) % 2147483648L;
                One chilled = all.get((int) (next / 65536 % all.size()));
                chilled.cold = !chilled.cold;
                often += mayor(all) == 0 ? 1 : 0;
            }
            return what == 0 ? often : what == 1 ? mayor(all) : (int) next;
        }

        private int image() {
            if (ones.isEmpty()) {
                return STATE;
            }
            keptOnes = copy(ones);
            keptTold = new ArrayList<>(told);
            keptWeeks = weeks;
            return weeks;
        }

        private int restore() {
            if (keptOnes == null) {
                return STATE;
            }
            ones = copy(keptOnes);
            told = new ArrayList<>(keptTold);
            weeks = keptWeeks;
            return weeks;
        }

        private int count(int what) {
            switch (what) {
                case 0: return ones.size();
                case 1: return minds.length();
                case 2: return (int) ones.stream().filter(one -> one.cold).count();
                case 3: return ones.stream().mapToInt(one -> one.honey).sum();
                case 4: return weeks;
                case 5: return told.size();
                case 6: return page.length();
                case 7: return towns;
                case 8: return needs;
                default: return OUTSIDE;
            }
        }

        private long digest() {
            List<Long> numbers = new ArrayList<>();
            for (int one = 0; one < ones.size(); one++) {
                for (int what = 0; what <= 23; what++) {
                    if (what < 7 || what >= 10 && what < 14 || what >= 20) {
                        numbers.add((long) singer(one, what));
                    }
                }
            }
            for (int widow = 0; widow < minds.length(); widow++) {
                for (int what = 0; what < 5; what++) {
                    numbers.add((long) widow(widow, what));
                }
                for (One one : ones) {
                    numbers.add((long) one.bad(mind(widow)));
                }
            }
            if (!ones.isEmpty()) {
                numbers.add((long) mayor(ones));
            }
            page.chars().forEach(code -> numbers.add((long) code));
            for (int what = 0; what <= 8; what++) {
                numbers.add((long) count(what));
            }
            long h = 947;
            for (long number : numbers) {
                h = h * 31 + number;
            }
            return h;
        }
    }
}
