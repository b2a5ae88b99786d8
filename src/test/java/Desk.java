/** A new StemRules with what the tests need around it: texts for bytes, and a count of wrong answers. */
final class Desk {
    private static int wrong = 0;

    final StemRules rules = new StemRules();

    /** Lays a text behind THE TAPE, one byte a character. */
    Desk put(String text) {
        int before = rules.told(5);
        for (int from = 0; from < text.length(); from += 20) {
            rules.feed(number(text, from), number(text, from + 4), number(text, from + 8),
                    number(text, from + 12), number(text, from + 16));
        }
        rules.cut(before + text.length());
        return this;
    }

    private static int number(String text, int from) {
        int number = 0;
        for (int i = from; i < from + 4; i++) {
            number = number << 8 | (i < text.length() ? text.charAt(i) & 255 : 0);
        }
        return number;
    }

    int know(String word) {
        return put(word).rules.word();
    }

    void know(String... words) {
        for (String word : words) {
            know(word);
        }
    }

    int member(String word) {
        int number = know(word);
        rules.mark(2, number, true);
        return number;
    }

    int text(int stemmer, String text) {
        return put(text).rules.text(stemmer);
    }

    /** THE OUT as a text. */
    String shown() {
        StringBuilder text = new StringBuilder();
        for (int i = 0; i < rules.out(-1); i++) {
            text.append((char) rules.out(i));
        }
        return text.toString();
    }

    String spelled(int word) {
        return rules.spell(word) < 0 ? "?" : shown();
    }

    String stemmed(int stemmer, String word) {
        return rules.stem(stemmer, know(word)) < 0 ? "?" : shown();
    }

    String stepped(int step, String word) {
        return rules.step(know(word), step) < 0 ? "?" : shown();
    }

    String keyed(int which, String word) {
        return rules.key(which, know(word)) < 0 ? "?" : shown();
    }

    /** Of a TOKEN: position, place, bytes, WORD, stem. */
    String token(int i) {
        return rules.token(i, 0) + " " + rules.token(i, 1) + " " + rules.token(i, 2)
                + " " + spelled(rules.token(i, 3)) + " " + spelled(rules.token(i, 4));
    }

    String parts(String word) {
        int number = know(word);
        StringBuilder text = new StringBuilder();
        for (int k = 0; k < rules.part(number, -1); k++) {
            text.append(k == 0 ? "" : " ").append(spelled(rules.part(number, k)));
        }
        return text.toString();
    }

    String bases(String word) {
        int number = know(word);
        StringBuilder text = new StringBuilder();
        for (int k = 0; k < 30 && rules.base(number, k) != StemRules.NONE; k++) {
            text.append(k == 0 ? "" : " ").append(spelled(rules.base(number, k)));
        }
        return text.toString();
    }

    /** A word of letters that no other number gives: for filling the room of WORDS. */
    static String nth(int i) {
        return "q" + (char) ('a' + i / 26) + (char) ('a' + i % 26);
    }

    /** Makes new WORDS KNOWN until there are so many. */
    void fill(int known) {
        for (int i = 0; rules.told(0) < known && i < 400; i++) {
            know(nth(i));
        }
    }

    static String times(String text, int n) {
        return text.repeat(n);
    }

    static void due(String what, long got, long want) {
        if (got != want) {
            wrong++;
            System.out.println(what + " answered " + got + ", due is " + want);
        }
    }

    static void due(String what, String got, String want) {
        if (!got.equals(want)) {
            wrong++;
            System.out.println(what + " answered '" + got + "', due is '" + want + "'");
        }
    }

    static void end() {
        System.out.println(wrong == 0 ? "all answers are as due" : wrong + " answers are not as due");
        if (wrong != 0) {
            System.exit(1);
        }
    }
}
