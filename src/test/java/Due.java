/** What the tests share: answers that are due, and towns from their texts. */
final class Due {
    private int right;
    private int wrong;
    private String title = "";

    void due(String call, long got, long want) {
        if (got == want) {
            right++;
            return;
        }
        wrong++;
        System.out.println(title + call + " answered " + got + ", due is " + want);
    }

    /** A test of its own: its title stands ahead of each wrong answer, and it is wrong if it asks nothing. */
    void test(String name, Runnable body) {
        int before = right + wrong;
        title = name + ": ";
        body.run();
        if (right + wrong == before) {
            wrong++;
            System.out.println(title + "it asks nothing");
        }
        title = "";
    }

    /** Tells how many answers were right, and ends with exit code 1 if one was not. */
    void end() {
        System.out.println(right + " answers as due, " + wrong + " not");
        if (wrong > 0 || right == 0) {
            System.exit(1);
        }
    }

    static void write(WorstVoice x, String text) {
        for (int at = 0; at < text.length(); at++) {
            x.letter(text.charAt(at));
        }
    }

    static WorstVoice page(String text) {
        WorstVoice x = new WorstVoice();
        write(x, text);
        return x;
    }

    static WorstVoice town(String text) {
        WorstVoice x = page(text);
        x.town();
        return x;
    }
}
