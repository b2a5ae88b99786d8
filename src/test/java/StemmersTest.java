/** Promises 7, 10, 11 and the STEMMERS 0 and 1, words that are PROTECTED and PAIRS: a test for each sentence. */
public final class StemmersTest {
    private static final int OUTSIDE = Desk.OUTSIDE, NONE = Desk.NONE, UNKNOWN = Desk.UNKNOWN;

    public static void main(String[] args) {
        stemmersByNumber();
        stemsDoNotBecomeKnown();
        pluralsIes();
        pluralsEs();
        pluralsS();
        pluralsOneLetter();
        pluralsTheFirstThatFits();
        protectedGivesTheWord();
        pairGivesItsStem();
        protectedBeforePair();
        markIsNewOrNot();
        markOutside();
        pairAnswersTheOneBefore();
        pairUnknown();
        Desk.end();
    }

    private static void stems(int stemmer, String... wordsAndStems) {
        for (int i = 0; i < wordsAndStems.length; i += 2) {
            String got = new Desk().stemmed(stemmer, wordsAndStems[i]);
            Desk.due("stem " + stemmer + " of " + wordsAndStems[i], got, wordsAndStems[i + 1]);
        }
    }

    private static void stemmersByNumber() {
        Desk.says("The stem of a WORD by a STEMMER (0 to 3) to OUT: how many letters. UNKNOWN; OUTSIDE.");
        Desk d = new Desk().knowAll("ponies", "ies");
        d.row(1, false, 2, NONE, false);
        int[] letters = {6, 4, 4, 4};
        String[] due = {"ponies", "pony", "poni", "poni"};
        for (int stemmer = 0; stemmer <= 3; stemmer++) {
            Desk.due("letters by " + stemmer, d.stem(stemmer, 0), letters[stemmer]);
            Desk.due("stem by " + stemmer, d.shown(), due[stemmer]);
        }
        Desk.due("stem by -1", d.stem(-1, 0), OUTSIDE);
        Desk.due("stem by 4", d.stem(4, 0), OUTSIDE);
        Desk.due("stem of UNKNOWN", d.stem(0, 2), UNKNOWN);
    }

    private static void stemsDoNotBecomeKnown() {
        Desk.says("(WORDS and stems become KNOWN) is said of TEXTS alone");
        Desk d = new Desk();
        d.stemmed(1, "cats");
        d.stemmed(2, "hopping");
        Desk.due("WORDS", d.told(0), 2);
        Desk.due("all WORDS can have stems", new Desk().fill(150).stem(2, 149), 3);
    }

    private static void pluralsIes() {
        Desk.says("behind ies, but not eies or aies, y comes in its place");
        stems(1, "ponies", "pony", "ties", "ty", "oies", "oy", "ies", "y", "aaies", "aaie", "eies", "eie", "aies", "aie",
                "zombieies", "zombieie");
    }

    private static void pluralsEs() {
        Desk.says("of es, but not aes, ees or oes, e");
        stems(1, "horses", "horse", "es", "e", "glasses", "glasse", "ues", "ue", "yes", "ye");
        Desk.says("of es, but not aes, ees or oes, e (then an s goes)");
        stems(1, "aes", "ae", "trees", "tree", "goes", "goe", "ees", "ee", "oes", "oe");
    }

    private static void pluralsS() {
        Desk.says("an s, but not of us or ss, goes");
        stems(1, "cats", "cat", "as", "a", "is", "i", "ys", "y", "us", "us", "ss", "ss", "corpus", "corpus",
                "glass", "glass", "cat", "cat", "sun", "sun", Desk.times("a", 23) + "s", Desk.times("a", 23));
    }

    private static void pluralsOneLetter() {
        Desk.says("(a WORD of one letter stays)");
        stems(1, "s", "s", "a", "a", "e", "e");
    }

    private static void pluralsTheFirstThatFits() {
        Desk.says("1 PLURALS, the first that fits");
        stems(1, "flies", "fly", "houses", "house", "yses", "yse", "sies", "sy");
    }

    private static Desk withARow() {
        Desk d = new Desk().knowAll("cats", "dog", "s", "dogs");
        d.row(2, false, 1, NONE, false);
        return d;
    }

    private static void protectedGivesTheWord() {
        Desk.says("Of a WORD that is PROTECTED 1 to 3 give the WORD");
        Desk d = withARow();
        d.mark(1, 0, true);
        d.mark(2, 0, true);
        for (int stemmer = 1; stemmer <= 3; stemmer++) {
            Desk.due("other marks, by " + stemmer, d.stemmed(stemmer, "cats"), "cat");
        }
        d.mark(0, 0, true);
        for (int stemmer = 0; stemmer <= 3; stemmer++) {
            Desk.due("PROTECTED, by " + stemmer, d.stemmed(stemmer, "cats"), "cats");
            Desk.due("another WORD, by " + stemmer, d.stemmed(stemmer, "dogs"), stemmer == 0 ? "dogs" : "dog");
        }
        d.mark(0, 0, false);
        Desk.due("PROTECTED no more", d.stemmed(1, "cats"), "cat");
    }

    private static void pairGivesItsStem() {
        Desk.says("of one that has a PAIR, the stem told there");
        Desk d = withARow();
        d.pair(0, 3);
        Desk.due("0 is the WORD", d.stemmed(0, "cats"), "cats");
        for (int stemmer = 1; stemmer <= 3; stemmer++) {
            Desk.due("PAIR, by " + stemmer, d.stemmed(stemmer, "cats"), "dogs");
        }
        d.pair(3, 1);
        Desk.due("a PAIR's PAIR is not asked", d.stemmed(1, "cats"), "dogs");
        d.mark(0, 3, true);
        Desk.due("a PAIR with one PROTECTED", d.stemmed(1, "cats"), "dogs");
        d.pair(0, 0);
        Desk.due("a PAIR with itself", d.stemmed(1, "cats"), "cats");
        d.pair(0, NONE);
        Desk.due("no PAIR any more", d.stemmed(1, "cats"), "cat");
    }

    private static void protectedBeforePair() {
        Desk.says("Of a WORD that is PROTECTED 1 to 3 give the WORD; of one that has a PAIR, the stem told there");
        Desk d = withARow();
        d.pair(0, 1);
        d.mark(0, 0, true);
        for (int stemmer = 1; stemmer <= 3; stemmer++) {
            Desk.due("PROTECTED, with a PAIR, by " + stemmer, d.stemmed(stemmer, "cats"), "cats");
        }
        d.mark(0, 0, false);
        Desk.due("the PAIR stayed", d.stemmed(2, "cats"), "dog");
    }

    private static void markIsNewOrNot() {
        Desk.says("A WORD is PROTECTED (what = 0), LEFT OUT of TEXTS (1), a MEMBER of the dictionary (2), or not:"
                + " 1 if that is new, else 0.");
        Desk d = new Desk().fill(150);
        for (int word : new int[] {0, 1, 149}) {
            for (int what = 0; what <= 2; what++) {
                Desk.due("not at first", d.mark(what, word, false), 0);
                Desk.due("new", d.mark(what, word, true), 1);
                Desk.due("not new", d.mark(what, word, true), 0);
            }
        }
        Desk.due("others are as they were", d.mark(0, 2, false), 0);
        for (int what = 0; what <= 2; what++) {
            Desk.due("off is new", d.mark(what, 1, false), 1);
            Desk.due("off is not new", d.mark(what, 1, false), 0);
            Desk.due("the one before stays", d.mark(what, 0, true), 0);
            Desk.due("the last stays", d.mark(what, 149, true), 0);
        }
    }

    private static void markOutside() {
        Desk.says("mark: UNKNOWN; OUTSIDE.");
        Desk d = new Desk().knowAll("cats", "dogs");
        Desk.due("mark 3", d.mark(3, 0, true), OUTSIDE);
        Desk.due("mark -1", d.mark(-1, 1, true), OUTSIDE);
        Desk.due("mark 3, false", d.mark(3, 0, false), OUTSIDE);
        Desk.due("UNKNOWN", d.mark(0, 2, true), UNKNOWN);
        for (int what = 0; what <= 2; what++) {
            Desk.due("cats has no mark " + what, d.mark(what, 0, false), 0);
            Desk.due("dogs has no mark " + what, d.mark(what, 1, false), 0);
        }
    }

    private static void pairAnswersTheOneBefore() {
        Desk.says("A WORD has a PAIR, a stem of its own (NONE: none): the number of that before (NONE).");
        Desk d = new Desk().knowAll("mice", "mouse", "rats");
        Desk.due("none before", d.pair(0, 1), NONE);
        Desk.due("1 before", d.pair(0, 2), 1);
        Desk.due("the same again", d.pair(0, 2), 2);
        Desk.due("off", d.pair(0, NONE), 2);
        Desk.due("off again", d.pair(0, NONE), NONE);
        Desk.due("number 0 is a PAIR too", d.pair(1, 0), NONE);
        Desk.due("0 before", d.pair(1, NONE), 0);
    }

    private static void pairUnknown() {
        Desk.says("pair: UNKNOWN: one of both.");
        Desk d = new Desk().knowAll("mice", "mouse");
        d.pair(0, 1);
        Desk.due("the WORD", d.pair(2, 1), UNKNOWN);
        Desk.due("the stem", d.pair(0, 2), UNKNOWN);
        Desk.due("both", d.pair(2, 2), UNKNOWN);
        Desk.due("NONE for the WORD", d.pair(NONE, 1), UNKNOWN);
        Desk.due("-1 for the stem", d.pair(0, -1), UNKNOWN);
        Desk.due("refused ones change nothing", d.pair(0, NONE), 1);
    }
}
