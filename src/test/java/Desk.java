/**
 * A new StemRules with what the tests need around it: texts for bytes, a count of wrong answers,
 * and a count of calls, for beyond 512 of them on one object nothing is promised.
 */
final class Desk {
    static final int UNKNOWN = StemRules.UNKNOWN, OUTSIDE = StemRules.OUTSIDE;
    static final int FULL = StemRules.FULL, NONE = StemRules.NONE;

    private static final int CALLS_MOST = 512, TOKENS_MOST = 60;

    private static int wrong = 0;
    private static String sentence = "";

    private final StemRules rules = new StemRules();
    private int calls;

    // ---- the face, counted

    private StemRules rules() {
        calls++;
        if (calls == CALLS_MOST + 1) {
            complain("a test calls one object more than " + CALLS_MOST + " times");
        }
        return rules;
    }

    int feed(int a, int b, int c, int d, int e) {
        return rules().feed(a, b, c, d, e);
    }

    int cut(int n) {
        return rules().cut(n);
    }

    int out(int i) {
        return rules().out(i);
    }

    int word() {
        return rules().word();
    }

    int spell(int word) {
        return rules().spell(word);
    }

    int stem(int stemmer, int word) {
        return rules().stem(stemmer, word);
    }

    int step(int word, int step) {
        return rules().step(word, step);
    }

    int measure(int word) {
        return rules().measure(word);
    }

    int mark(int what, int word, boolean is) {
        return rules().mark(what, word, is);
    }

    int pair(int word, int stem) {
        return rules().pair(word, stem);
    }

    int row(int ending, boolean whole, int go, int come, boolean on) {
        return rules().row(ending, whole, go, come, on);
    }

    int rowless() {
        return rules().rowless();
    }

    int affix(boolean behind, int has, int instead) {
        return rules().affix(behind, has, instead);
    }

    int base(int word, int k) {
        return rules().base(word, k);
    }

    int least(int n) {
        return rules().least(n);
    }

    int part(int word, int k) {
        return rules().part(word, k);
    }

    int key(int which, int word) {
        return rules().key(which, word);
    }

    int text(int stemmer) {
        return rules().text(stemmer);
    }

    int token(int i, int what) {
        return rules().token(i, what);
    }

    int told(int what) {
        return rules().told(what);
    }

    int calls() {
        return calls;
    }

    // ---- the face with texts

    /** Lays a text behind THE TAPE, one byte a character. */
    Desk put(String text) {
        int size = 0;
        for (int from = 0; from < text.length(); from += 20) {
            size = feed(number(text, from), number(text, from + 4), number(text, from + 8),
                    number(text, from + 12), number(text, from + 16));
        }
        if (text.length() % 20 != 0) {
            cut(size - 20 + text.length() % 20);
        }
        return this;
    }

    private static int number(String text, int from) {
        int number = 0;
        for (int i = from; i < from + 4; i++) {
            number = number << 8 | (i < text.length() ? text.charAt(i) & 255 : 0);
        }
        return number;
    }

    int know(String word) {
        return put(word).word();
    }

    Desk knowAll(String... words) {
        for (String word : words) {
            know(word);
        }
        return this;
    }

    int member(String word) {
        int number = know(word);
        mark(2, number, true);
        return number;
    }

    Desk members(String... words) {
        for (String word : words) {
            member(word);
        }
        return this;
    }

    int text(int stemmer, String text) {
        return put(text).text(stemmer);
    }

    /** THE OUT as a text. */
    String shown() {
        int size = out(-1);
        StringBuilder text = new StringBuilder();
        for (int i = 0; i < size; i++) {
            text.append((char) out(i));
        }
        return text.toString();
    }

    /** THE OUT, if the call that laid it there told its length; else that call's answer. */
    private String shownBy(int answer) {
        return answer >= 0 && answer == out(-1) ? shown() : "answer " + answer;
    }

    String spelled(int word) {
        return shownBy(spell(word));
    }

    String stemmed(int stemmer, String word) {
        return shownBy(stem(stemmer, know(word)));
    }

    String stepped(int step, String word) {
        return shownBy(step(know(word), step));
    }

    String keyed(int which, String word) {
        return shownBy(key(which, know(word)));
    }

    /** Of a TOKEN: position, place, bytes, WORD, stem. */
    String tokenShown(int i) {
        return token(i, 0) + " " + token(i, 1) + " " + token(i, 2)
                + " " + spelled(token(i, 3)) + " " + spelled(token(i, 4));
    }

    String parts(String word) {
        int number = know(word);
        int count = part(number, -1);
        StringBuilder text = new StringBuilder();
        for (int k = 0; k < count; k++) {
            text.append(k == 0 ? "" : " ").append(spelled(part(number, k)));
        }
        return text.toString();
    }

    String bases(String word) {
        int number = know(word);
        StringBuilder text = new StringBuilder();
        int base = base(number, 0);
        for (int k = 1; k < 30 && base != NONE; k++) {
            text.append(k == 1 ? "" : " ").append(spelled(base));
            base = base(number, k);
        }
        return text.toString();
    }

    /** Words of three letters that no other number gives: for filling the room of WORDS. */
    static String nth(int i) {
        return "q" + (char) ('a' + i / 26) + (char) ('a' + i % 26);
    }

    /** Makes new WORDS KNOWN until there are so many; by texts, since a text takes fewer calls. */
    Desk fill(int known) {
        for (int from = told(0); from < known; from += TOKENS_MOST) {
            StringBuilder text = new StringBuilder();
            for (int i = from; i < known && i < from + TOKENS_MOST; i++) {
                text.append(nth(i)).append(' ');
            }
            text(0, text.toString());
        }
        return this;
    }

    static String times(String text, int n) {
        return text.repeat(n);
    }

    // ---- what is due

    /** The sentence of the document that the answers from here on are due by. */
    static void says(String words) {
        sentence = words;
    }

    static void due(String what, long got, long want) {
        if (got != want) {
            complain(what + " answered " + got + ", due is " + want);
        }
    }

    static void due(String what, String got, String want) {
        if (!got.equals(want)) {
            complain(what + " answered '" + got + "', due is '" + want + "'");
        }
    }

    private static void complain(String what) {
        wrong++;
        System.out.println((sentence.isEmpty() ? "" : "\"" + sentence + "\": ") + what);
    }

    static void end() {
        System.out.println(wrong == 0 ? "all answers are as due" : wrong + " answers are not as due");
        if (wrong != 0) {
            System.exit(1);
        }
    }
}
