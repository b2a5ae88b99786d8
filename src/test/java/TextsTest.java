/** Promises 19 to 21: text, token, told of TEXTS. */
public final class TextsTest {
    private static final int NONE = StemRules.NONE, OUTSIDE = StemRules.OUTSIDE, FULL = StemRules.FULL;

    public static void main(String[] args) {
        ordinary();
        refusals();
        apostrophes();
        pieces();
        leftOut();
        stemmers();
        sixtyTokens();
        sixtyTokensAndLeftOut();
        full();
        latest();
        Desk.end();
    }

    private static void tokens(String text, String... due) {
        Desk d = new Desk();
        Desk.due("text of " + text, d.text(0, text), due.length);
        for (int i = 0; i < due.length; i++) {
            Desk.due("token " + i + " of " + text, d.token(i), due[i]);
        }
    }

    private static String token(int position, int place, int bytes, String word) {
        return position + " " + place + " " + bytes + " " + word + " " + word;
    }

    private static void ordinary() {
        Desk d = new Desk();
        Desk.due("text", d.text(2, "The Hopping cats, hopping."), 4);
        Desk.due("text empties THE TAPE", d.rules.told(5), 0);
        Desk.due("token 0", d.token(0), "0 0 3 the the");
        Desk.due("token 1", d.token(1), "1 4 7 hopping hop");
        Desk.due("token 2", d.token(2), "2 12 4 cats cat");
        Desk.due("token 3", d.token(3), "3 18 7 hopping hop");
        String[] known = {"the", "hopping", "hop", "cats", "cat"};
        Desk.due("WORDS and stems are KNOWN", d.rules.told(0), known.length);
        for (int i = 0; i < known.length; i++) {
            Desk.due("WORD " + i, d.spelled(i), known[i]);
        }
        tokens("");
        tokens(" 12 \u00e9'\0", new String[0]);
        tokens("a1B-c\u00e9d", token(0, 0, 1, "a"), token(1, 2, 1, "b"), token(2, 4, 1, "c"), token(3, 6, 1, "d"));
        tokens("@AZ[`az{", token(0, 1, 2, "az"), token(1, 5, 2, "az"));
    }

    private static void refusals() {
        Desk d = new Desk();
        d.text(0, "one two");
        Desk.due("text(4)", d.text(4, "three four five"), OUTSIDE);
        Desk.due("refused, THE TAPE is empty", d.rules.told(5), 0);
        Desk.due("text(-1)", d.text(-1, "three"), OUTSIDE);
        Desk.due("TOKENS stay", d.rules.told(1), 2);
        Desk.due("WORDS stay", d.rules.told(0), 2);
        Desk.due("token(2, 0)", d.rules.token(2, 0), NONE);
        Desk.due("token(-1, 0)", d.rules.token(-1, 0), NONE);
        Desk.due("token(0, 5)", d.rules.token(0, 5), OUTSIDE);
        Desk.due("token(0, -1)", d.rules.token(0, -1), OUTSIDE);
        Desk.due("OUTSIDE before NONE", d.rules.token(2, 5), OUTSIDE);
    }

    private static void apostrophes() {
        tokens("dog's O'Neil's rock'n'roll", token(0, 0, 5, "dog"), token(1, 6, 8, "oneil"),
                token(2, 15, 11, "rocknroll"));
        tokens("dogs' 'cats'", token(0, 0, 4, "dogs"), token(1, 7, 4, "cats"));
        tokens("don''t", token(0, 0, 3, "don"), token(1, 5, 1, "t"));
        tokens("DOG'S", token(0, 0, 5, "dog"));
        tokens("a's's", token(0, 0, 5, "as"));
        tokens("s's", token(0, 0, 3, "s"));
        tokens("'s", token(0, 1, 1, "s"));
        tokens("it'sy", token(0, 0, 5, "itsy"));
        tokens("a's-b", token(0, 0, 3, "a"), token(1, 4, 1, "b"));
        tokens("a'1 a's1", token(0, 0, 1, "a"), token(1, 4, 3, "a"));
    }

    private static void pieces() {
        String a24 = Desk.times("a", 24);
        tokens(a24, token(0, 0, 24, a24));
        tokens(a24 + "'s", token(0, 0, 26, a24));
        tokens(a24 + "b c", token(0, 0, 24, a24), token(1, 24, 1, "b"), token(2, 26, 1, "c"));
        tokens(a24 + "'b's", token(0, 0, 25, a24), token(1, 25, 3, "b"));
        tokens(" a'" + Desk.times("a", 23) + "b", token(0, 1, 25, a24), token(1, 26, 1, "b"));
        tokens(a24 + Desk.times("b", 24) + "'s x", token(0, 0, 24, a24), token(1, 24, 26, Desk.times("b", 24)),
                token(2, 51, 1, "x"));
        tokens(Desk.times("a", 23) + "'b's'c", token(0, 0, 26, Desk.times("a", 23) + "b"), token(1, 26, 3, "sc"));
        Desk d = new Desk();
        Desk.due("400 letters", d.text(0, Desk.times("a", 400)), 17);
        Desk.due("the last piece", d.token(16), token(16, 384, 16, Desk.times("a", 16)));
    }

    private static void leftOut() {
        Desk d = new Desk();
        int the = d.know("the");
        d.rules.mark(1, the, true);
        Desk.due("text", d.text(1, "The cats of THE the's"), 2);
        Desk.due("token 0", d.token(0), "1 4 4 cats cat");
        Desk.due("token 1", d.token(1), "2 9 2 of of");
        Desk.due("all have positions", d.rules.told(4), 5);
        Desk.due("TOKENS", d.rules.told(1), 2);
        d.rules.mark(1, the, false);
        Desk.due("not LEFT OUT any more", d.text(1, "The cats"), 2);
        int cat = d.know("cat");
        d.rules.mark(1, cat, true);
        Desk.due("its stem does not matter", d.text(1, "cats cat"), 1);
        Desk.due("a stem that is LEFT OUT", d.token(0), "0 0 4 cats cat");
    }

    private static void stemmers() {
        Desk d = new Desk();
        d.know("mice", "mouse", "cats", "s");
        d.rules.pair(0, 1);
        d.rules.mark(0, 2, true);
        d.rules.row(3, false, 1, NONE, false);
        String[] due = {"mice cats dogs running", "mouse cats dog running", "mouse cats dog run",
            "mouse cats dog running"};
        for (int stemmer = 0; stemmer <= 3; stemmer++) {
            d.text(stemmer, "mice cats dogs running");
            StringBuilder got = new StringBuilder();
            for (int i = 0; i < 4; i++) {
                got.append(i == 0 ? "" : " ").append(d.spelled(d.rules.token(i, 4)));
            }
            Desk.due("stems by " + stemmer, got.toString(), due[stemmer]);
        }
    }

    private static void sixtyTokens() {
        Desk d = new Desk();
        Desk.due("60 TOKENS", d.text(0, Desk.times("a ", 59) + "b c " + Desk.times("d ", 10)), 60);
        Desk.due("the last one", d.token(59), token(59, 118, 1, "b"));
        Desk.due("token 60", d.rules.token(60, 0), NONE);
        Desk.due("others are not KNOWN", d.rules.told(0), 2);
        Desk.due("others have no position", d.rules.told(4), 60);
        Desk.due("pieces too", d.text(0, Desk.times("a ", 59) + Desk.times("b", 30)), 60);
        Desk.due("the other piece is not KNOWN", d.rules.told(0), 3);
    }

    private static void sixtyTokensAndLeftOut() {
        Desk d = new Desk();
        d.rules.mark(1, d.know("x"), true);
        Desk.due("60 beside LEFT OUT ones", d.text(0, Desk.times("x a ", 62) + "x"), 60);
        Desk.due("the last one", d.token(59), token(119, 238, 1, "a"));
        Desk.due("positions", d.rules.told(4), 120);
    }

    private static void full() {
        Desk d = new Desk();
        d.fill(147);
        Desk.due("room for three", d.text(1, "horses ox"), 2);
        Desk.due("150", d.rules.told(0), 150);
        Desk.due("all KNOWN", d.text(1, "ox horses horse"), 3);
        Desk.due("one more", d.text(1, "ox cow"), FULL);
        Desk.due("FULL, THE TAPE is empty", d.rules.told(5), 0);
        Desk.due("TOKENS stay", d.token(1), "1 3 6 horses horse");
        Desk.due("positions stay", d.rules.told(4), 3);

        Desk e = new Desk();
        e.fill(148);
        Desk.due("no room for a stem", e.text(1, "ox horses"), FULL);
        Desk.due("none of them is KNOWN", e.rules.told(0), 148);
        Desk.due("OUTSIDE before FULL", e.text(4, "ox horses"), OUTSIDE);
        Desk.due("the next number is free", e.know("cow"), 148);
        Desk.due("what was refused left nothing", e.spelled(148), "cow");
        Desk.due("no mark either", e.rules.mark(1, 148, false), 0);
        Desk.due("no PAIR either", e.rules.pair(148, NONE), NONE);
        Desk.due("room for one", e.text(2, "cow ox cow"), 3);
        Desk.due("not looked at, no room needed", e.text(0, Desk.times("ox ", 60) + "new"), 60);
    }

    private static void latest() {
        Desk d = new Desk();
        d.text(0, "one two three");
        Desk.due("an empty TEXT", d.rules.text(0), 0);
        Desk.due("has no TOKENS", d.rules.told(1), 0);
        Desk.due("has no positions", d.rules.told(4), 0);
        Desk.due("token", d.rules.token(0, 3), NONE);
        d.text(0, "four one");
        Desk.due("the latest", d.token(1), token(1, 5, 3, "one"));
        Desk.due("numbers stay", d.rules.token(1, 3), 0);
        Desk.due("token(0, 3)", d.rules.token(0, 3), 3);
    }
}
