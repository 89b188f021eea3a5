/** What the tests share: answers that are due, and towns from their texts. */
final class Due {
    private int right;
    private int wrong;

    void due(String call, long got, long want) {
        if (got == want) {
            right++;
            return;
        }
        wrong++;
        System.out.println(call + " answered " + got + ", due is " + want);
    }

    /** Tells how many answers were right, and ends with exit code 1 if one was not. */
    void end() {
        System.out.println(right + " answers as due, " + wrong + " not");
        if (wrong > 0 || right == 0) {
            System.exit(1);
        }
    }

    static void write(WorstVoice x, String text) {
        for (int at = 0; at < text.length(); at++) {
            x.letter(text.charAt(at));
        }
    }

    static WorstVoice page(String text) {
        WorstVoice x = new WorstVoice();
        write(x, text);
        return x;
    }

    static WorstVoice town(String text) {
        WorstVoice x = page(text);
        x.town();
        return x;
    }
}
