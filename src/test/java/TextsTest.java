/** Promises 19 to 21, TEXTS: a test for each sentence. */
public final class TextsTest {
    private static final int OUTSIDE = Desk.OUTSIDE, NONE = Desk.NONE, FULL = Desk.FULL;

    public static void main(String[] args) {
        howManyTokens();
        rowsOfLetters();
        capitals();
        anEmptyText();
        apostropheBetweenLetters();
        apostropheElsewhere();
        ownersS();
        piecesOf24();
        piecesAndApostrophes();
        piecesByPosition();
        positionsFrom0On();
        leftOutHasAPosition();
        placeAndBytes();
        wordsAndStemsBecomeKnown();
        stemmerThatIsAskedFor();
        protectedAndPairs();
        sixtyTokensAtMost();
        sixtyTokensAndLeftOut();
        sixtyTokensAndPieces();
        textOutside();
        textFull();
        textFullChangesNothing();
        theLatestText();
        tokenByNumber();
        tokenOutsideAndNone();
        told();
        toldOutside();
        Desk.end();
    }

    private static void tokens(String text, String... due) {
        Desk d = new Desk();
        Desk.due("text of " + text, d.text(0, text), due.length);
        for (int i = 0; i < due.length; i++) {
            Desk.due("token " + i + " of " + text, d.tokenShown(i), due[i]);
        }
    }

    private static String token(int position, int place, int bytes, String word) {
        return position + " " + place + " " + bytes + " " + word + " " + word;
    }

    private static void howManyTokens() {
        Desk.says("THE TAPE is a TEXT, cut by a STEMMER: how many TOKENS.");
        Desk d = new Desk();
        Desk.due("text", d.text(2, "The Hopping cats, hopping."), 4);
        Desk.due("token 0", d.tokenShown(0), "0 0 3 the the");
        Desk.due("token 1", d.tokenShown(1), "1 4 7 hopping hop");
        Desk.due("token 2", d.tokenShown(2), "2 12 4 cats cat");
        Desk.due("token 3", d.tokenShown(3), "3 18 7 hopping hop");
    }

    private static void rowsOfLetters() {
        Desk.says("WORDS in it are rows of letters as long as can be");
        tokens("a1B-c\u00e9d", token(0, 0, 1, "a"), token(1, 2, 1, "b"), token(2, 4, 1, "c"), token(3, 6, 1, "d"));
        tokens("abc", token(0, 0, 3, "abc"));
        tokens("ab\0\u0080cd", token(0, 0, 2, "ab"), token(1, 4, 2, "cd"));
    }

    private static void capitals() {
        Desk.says("(A to Z are a to z)");
        tokens("@AZ[`az{", token(0, 1, 2, "az"), token(1, 5, 2, "az"));
        tokens("CaTs", token(0, 0, 4, "cats"));
        tokens("\u00c1\u00e1\u00daz", token(0, 3, 1, "z"));
        Desk d = new Desk();
        d.text(0, "Cats CATS cats");
        Desk.due("one WORD", d.told(0), 1);
    }

    private static void anEmptyText() {
        Desk.says("A TEXT: bytes (none, or none that is a letter)");
        tokens("");
        tokens(" 12 \u00e9'\0");
        tokens("'");
        tokens("' '' '");
    }

    private static void apostropheBetweenLetters() {
        Desk.says("with letters on both sides, ' between them ... other ' are left out");
        tokens("rock'n'roll", token(0, 0, 11, "rocknroll"));
        tokens("O'Neil", token(0, 0, 6, "oneil"));
        tokens("it'sy", token(0, 0, 5, "itsy"));
        tokens("a's'b", token(0, 0, 5, "asb"));
    }

    private static void apostropheElsewhere() {
        Desk.says("with letters on both sides, ' between them (else it ends the row)");
        tokens("dogs' 'cats'", token(0, 0, 4, "dogs"), token(1, 7, 4, "cats"));
        tokens("don''t", token(0, 0, 3, "don"), token(1, 5, 1, "t"));
        tokens("a'1b", token(0, 0, 1, "a"), token(1, 3, 1, "b"));
        tokens("1'b", token(0, 2, 1, "b"));
        tokens("a'", token(0, 0, 1, "a"));
        tokens("a`b", token(0, 0, 1, "a"), token(1, 2, 1, "b"));
    }

    private static void ownersS() {
        Desk.says("'s at the end of one goes");
        tokens("dog's O'Neil's", token(0, 0, 5, "dog"), token(1, 6, 8, "oneil"));
        tokens("DOG'S", token(0, 0, 5, "dog"));
        tokens("s's", token(0, 0, 3, "s"));
        tokens("'s", token(0, 1, 1, "s"));
        tokens("a''s", token(0, 0, 1, "a"), token(1, 3, 1, "s"));
        tokens("a's's", token(0, 0, 5, "as"));
        tokens("a's'", token(0, 0, 3, "a"));
        tokens("a's1 a's-b", token(0, 0, 3, "a"), token(1, 5, 3, "a"), token(2, 9, 1, "b"));
        tokens("a't as", token(0, 0, 3, "at"), token(1, 4, 2, "as"));
    }

    private static void piecesOf24() {
        Desk.says("One of more than 24 letters then is cut into pieces of 24");
        String a24 = Desk.times("a", 24);
        tokens(a24, token(0, 0, 24, a24));
        tokens(a24 + "b c", token(0, 0, 24, a24), token(1, 24, 1, "b"), token(2, 26, 1, "c"));
        tokens(a24 + a24, token(0, 0, 24, a24), token(1, 24, 24, a24));
        tokens(a24 + a24 + "b", token(0, 0, 24, a24), token(1, 24, 24, a24), token(2, 48, 1, "b"));
        Desk d = new Desk();
        Desk.due("400 letters", d.text(0, Desk.times("a", 400)), 17);
        Desk.due("the last piece", d.tokenShown(16), token(16, 384, 16, Desk.times("a", 16)));

        Desk.says("One of more than 24 letters then (when 's and ' went)");
        tokens(a24 + "'s", token(0, 0, 26, a24));
        tokens(a24 + Desk.times("b", 24) + "'s x", token(0, 0, 24, a24), token(1, 24, 26, Desk.times("b", 24)),
                token(2, 51, 1, "x"));
        tokens("a'" + Desk.times("a", 23), token(0, 0, 25, a24));
    }

    private static void piecesAndApostrophes() {
        Desk.says("(the bytes of one reach up to the next one)");
        String a24 = Desk.times("a", 24);
        tokens(a24 + "'b", token(0, 0, 25, a24), token(1, 25, 1, "b"));
        tokens(a24 + "'b's", token(0, 0, 25, a24), token(1, 25, 3, "b"));
        tokens(" a'" + Desk.times("a", 23) + "b", token(0, 1, 25, a24), token(1, 26, 1, "b"));
        tokens(Desk.times("a", 23) + "'b's'c", token(0, 0, 26, Desk.times("a", 23) + "b"), token(1, 26, 3, "sc"));
    }

    private static void piecesByPosition() {
        Desk.says("pieces of 24 ... Positions are counted from 0 on; one that is LEFT OUT has a position");
        String a24 = Desk.times("a", 24);
        Desk d = new Desk();
        d.mark(1, d.know(a24), true);
        Desk.due("TOKENS", d.text(0, a24 + "b " + a24 + a24 + "c"), 2);
        Desk.due("token 0", d.tokenShown(0), token(1, 24, 1, "b"));
        Desk.due("token 1", d.tokenShown(1), token(4, 74, 1, "c"));
        Desk.due("positions", d.told(4), 5);
    }

    private static void positionsFrom0On() {
        Desk.says("Positions are counted from 0 on");
        Desk d = new Desk();
        d.text(0, "- one two");
        Desk.due("the first", d.token(0, 0), 0);
        Desk.due("the second", d.token(1, 0), 1);
        d.text(0, "three");
        Desk.due("the first of the next TEXT", d.token(0, 0), 0);
    }

    private static void leftOutHasAPosition() {
        Desk.says("one that is LEFT OUT has a position, but is no TOKEN");
        Desk d = new Desk();
        int the = d.know("the");
        d.mark(1, the, true);
        Desk.due("text", d.text(1, "The cats of THE the's"), 2);
        Desk.due("token 0", d.tokenShown(0), "1 4 4 cats cat");
        Desk.due("token 1", d.tokenShown(1), "2 9 2 of of");
        Desk.due("positions", d.told(4), 5);
        Desk.due("TOKENS", d.told(1), 2);
        Desk.due("only such ones", d.text(1, "the the"), 0);
        Desk.due("positions", d.told(4), 2);
        d.mark(1, the, false);
        Desk.due("not LEFT OUT any more", d.text(1, "The cats"), 2);
        d.mark(0, the, true);
        d.mark(2, the, true);
        Desk.due("other marks", d.text(1, "The cats"), 2);
        d.mark(1, d.know("cat"), true);
        Desk.due("its stem is not asked", d.text(1, "cats cat"), 1);
        Desk.due("a stem that is LEFT OUT", d.tokenShown(0), "0 0 4 cats cat");
    }

    private static void placeAndBytes() {
        Desk.says("its position, place and bytes in the TEXT (with all ' that it has, also 's)");
        tokens("  rock'n'roll's  x", token(0, 2, 13, "rocknroll"), token(1, 17, 1, "x"));
        Desk d = new Desk();
        d.text(0, Desk.times(".", 399) + "z");
        Desk.due("the last byte", d.tokenShown(0), token(0, 399, 1, "z"));
        d.text(0, Desk.times(".", 397) + "z's");
        Desk.due("the last bytes", d.tokenShown(0), token(0, 397, 3, "z"));
        d.text(0, Desk.times(".", 398) + "z'");
        Desk.due("' at the end of THE TAPE", d.tokenShown(0), token(0, 398, 1, "z"));
    }

    private static void wordsAndStemsBecomeKnown() {
        Desk.says("(WORDS and stems become KNOWN)");
        Desk d = new Desk();
        d.text(2, "The Hopping cats, hopping. Hop!");
        String[] known = {"the", "hopping", "hop", "cats", "cat"};
        Desk.due("WORDS", d.told(0), known.length);
        for (int i = 0; i < known.length; i++) {
            Desk.due("WORD " + i, d.spelled(i), known[i]);
        }
        int[] words = {0, 1, 3, 1, 2};
        int[] stems = {0, 2, 4, 2, 2};
        for (int i = 0; i < 5; i++) {
            Desk.due("WORD of token " + i, d.token(i, 3), words[i]);
            Desk.due("stem of token " + i, d.token(i, 4), stems[i]);
        }
    }

    private static void stemmerThatIsAskedFor() {
        Desk.says("its stem by the STEMMER that is asked for");
        Desk d = new Desk().knowAll("ing");
        d.row(0, false, 3, NONE, false);
        String[] due = {"ponies running", "pony running", "poni run", "ponies runn"};
        for (int stemmer = 0; stemmer <= 3; stemmer++) {
            d.text(stemmer, "ponies running");
            String got = d.spelled(d.token(0, 4)) + " " + d.spelled(d.token(1, 4));
            Desk.due("stems by " + stemmer, got, due[stemmer]);
        }
    }

    private static void protectedAndPairs() {
        Desk.says("its stem by the STEMMER (PROTECTED, with a PAIR)");
        Desk d = new Desk().knowAll("mice", "mouse", "cats");
        d.pair(0, 1);
        d.mark(0, 2, true);
        for (int stemmer = 0; stemmer <= 3; stemmer++) {
            d.text(stemmer, "Mice's cats");
            Desk.due("PAIR by " + stemmer, d.token(0, 4), stemmer == 0 ? 0 : 1);
            Desk.due("PROTECTED by " + stemmer, d.token(1, 4), 2);
        }
    }

    private static void sixtyTokensAtMost() {
        Desk.says("60 TOKENS at most: others are not looked at.");
        Desk d = new Desk();
        Desk.due("60", d.text(0, Desk.times("a ", 60)), 60);
        Desk.due("positions", d.told(4), 60);
        Desk.due("61", d.text(0, Desk.times("a ", 59) + "b c"), 60);
        Desk.due("the last one", d.tokenShown(59), token(59, 118, 1, "b"));
        Desk.due("token 60", d.token(60, 0), NONE);
        Desk.due("200", d.text(0, Desk.times("a ", 60) + Desk.times("d ", 140)), 60);
        Desk.due("TOKENS", d.told(1), 60);
        Desk.due("others have no position", d.told(4), 60);
        Desk.due("others do not become KNOWN", d.told(0), 2);
        d.fill(150);
        Desk.due("others need no room", d.text(0, Desk.times("a ", 60) + "new"), 60);
        Desk.due("59 and a new one", d.text(0, Desk.times("a ", 59) + "new"), FULL);
    }

    private static void sixtyTokensAndLeftOut() {
        Desk.says("60 TOKENS at most (LEFT OUT ones are no TOKENS)");
        Desk d = new Desk();
        d.mark(1, d.know("x"), true);
        Desk.due("60 beside LEFT OUT ones", d.text(0, Desk.times("x a ", 62)), 60);
        Desk.due("the last one", d.tokenShown(59), token(119, 238, 1, "a"));
        Desk.due("positions", d.told(4), 120);
        Desk.due("200 LEFT OUT", d.text(0, Desk.times("x ", 200)), 0);
        Desk.due("positions", d.told(4), 200);
        Desk.due("199 LEFT OUT", d.text(0, Desk.times("x ", 199) + "a"), 1);
        Desk.due("the one behind them", d.tokenShown(0), token(199, 398, 1, "a"));
    }

    private static void sixtyTokensAndPieces() {
        Desk.says("60 TOKENS at most (pieces are TOKENS)");
        Desk d = new Desk();
        Desk.due("59 and two pieces", d.text(0, Desk.times("a ", 59) + Desk.times("b", 30)), 60);
        Desk.due("the first piece", d.tokenShown(59), token(59, 118, 24, Desk.times("b", 24)));
        Desk.due("the other does not become KNOWN", d.told(0), 2);
    }

    private static void textOutside() {
        Desk.says("text: OUTSIDE (0 to 3)");
        for (int stemmer : new int[] {-1, 4, Integer.MIN_VALUE, Integer.MAX_VALUE}) {
            Desk d = new Desk();
            d.text(3, "one two");
            Desk.due("text by " + stemmer, d.text(stemmer, "three four five"), OUTSIDE);
            Desk.due("TOKENS stay", d.told(1), 2);
            Desk.due("positions stay", d.told(4), 2);
            Desk.due("none became KNOWN", d.told(0), 2);
            Desk.due("THE TAPE is empty", d.told(5), 0);
        }
    }

    private static void textFull() {
        Desk.says("text: FULL: more WORDS would be KNOWN than may be.");
        Desk d = new Desk().fill(147);
        Desk.due("room for three", d.text(1, "horses ox"), 2);
        Desk.due("150", d.told(0), 150);
        Desk.due("all KNOWN", d.text(1, "ox horses horse"), 3);
        Desk.due("a WORD too many", d.text(1, "ox cow"), FULL);
        Desk e = new Desk().fill(149);
        Desk.due("a stem too many", e.text(1, "horses"), FULL);
        Desk.due("a stem that is the WORD", e.text(1, "ox ox"), 2);
        Desk f = new Desk().fill(149);
        Desk.due("a stem that is KNOWN", f.text(1, Desk.nth(7) + "s"), 1);
    }

    private static void textFullChangesNothing() {
        Desk.says("text: FULL ... What is refused changes nothing");
        Desk d = new Desk().fill(148);
        d.text(0, "qaa qab qac");
        Desk.due("FULL", d.text(1, "ox horses"), FULL);
        Desk.due("none of them is KNOWN", d.told(0), 148);
        Desk.due("THE TAPE is empty", d.told(5), 0);
        Desk.due("TOKENS stay", d.told(1), 3);
        Desk.due("positions stay", d.told(4), 3);
        Desk.due("token 2 stays", d.tokenShown(2), token(2, 8, 3, "qac"));
        Desk.due("token 0 stays", d.tokenShown(0), token(0, 0, 3, "qaa"));
        Desk.due("the next number", d.know("cow"), 148);
        Desk.due("the WORD there", d.spelled(148), "cow");
        Desk.due("it has no PAIR", d.pair(148, NONE), NONE);
        Desk.due("what had no room has it now", d.text(1, "ox cow ox"), 3);
        Desk.due("its number", d.token(0, 3), 149);
    }

    private static void theLatestText() {
        Desk.says("Of TOKEN i of the latest text() that was not refused");
        Desk d = new Desk();
        Desk.due("none yet", d.token(0, 0), NONE);
        d.text(0, "one two three");
        d.text(0, "four one");
        Desk.due("token 0", d.tokenShown(0), token(0, 0, 4, "four"));
        Desk.due("token 1", d.tokenShown(1), token(1, 5, 3, "one"));
        Desk.due("those of the one before are gone", d.token(2, 0), NONE);
        d.text(4, "five");
        Desk.due("behind a refused one", d.tokenShown(0), token(0, 0, 4, "four"));
        d.know("six");
        Desk.due("behind word()", d.tokenShown(1), token(1, 5, 3, "one"));
        Desk.due("an empty TEXT", d.text(0), 0);
        Desk.due("has no TOKENS", d.token(0, 0), NONE);
        Desk.due("told(1)", d.told(1), 0);
        Desk.due("told(4)", d.told(4), 0);
    }

    private static void tokenByNumber() {
        Desk.says("0 its position, 1 its place, 2 its bytes, 3 its WORD's number, 4 its stem's");
        Desk d = new Desk();
        d.mark(1, d.know("the"), true);
        d.text(1, "the dog the dog's the cats");
        int[] due = {5, 22, 4, 2, 3};
        for (int what = 0; what < due.length; what++) {
            Desk.due("token(2, " + what + ")", d.token(2, what), due[what]);
        }
    }

    private static void tokenOutsideAndNone() {
        Desk.says("token: OUTSIDE; NONE: no such one.");
        Desk d = new Desk();
        Desk.due("of none, what 5", d.token(0, 5), OUTSIDE);
        d.text(0, "one two");
        Desk.due("what 5", d.token(0, 5), OUTSIDE);
        Desk.due("what -1", d.token(0, -1), OUTSIDE);
        Desk.due("token 2", d.token(2, 0), NONE);
        Desk.due("token -1", d.token(-1, 4), NONE);
        for (int far : new int[] {Integer.MIN_VALUE, Integer.MAX_VALUE, 1 << 30, 60}) {
            Desk.due("token " + far, d.token(far, 0), NONE);
            Desk.due("what " + far, d.token(0, far), OUTSIDE);
        }
        Desk.due("both", d.token(2, 5), OUTSIDE);
    }

    private static void told() {
        Desk.says("0 WORDS KNOWN, 1 TOKENS, 2 ROWS, 3 AFFIXES, 4 positions of the latest text(), 5 bytes on THE TAPE");
        Desk d = new Desk().knowAll("ing", "ed", "the");
        d.row(0, false, 3, NONE, true);
        d.row(1, false, 2, NONE, true);
        d.affix(true, 0, NONE);
        d.mark(1, 2, true);
        d.text(0, "the one of the many");
        d.put("rest");
        int[] due = {6, 3, 2, 1, 5, 4};
        for (int what = 0; what < due.length; what++) {
            Desk.due("told(" + what + ")", d.told(what), due[what]);
        }
    }

    private static void toldOutside() {
        Desk.says("told: OUTSIDE.");
        Desk d = new Desk();
        for (int what : new int[] {-1, 6, Integer.MIN_VALUE, Integer.MAX_VALUE}) {
            Desk.due("told(" + what + ")", d.told(what), OUTSIDE);
        }
    }
}
