/** Promises 12, 13 and STEMMER 3, HUSK: a test for each sentence. */
public final class HuskTest {
    private static final int OUTSIDE = Desk.OUTSIDE, NONE = Desk.NONE, UNKNOWN = Desk.UNKNOWN, FULL = Desk.FULL;

    public static void main(String[] args) {
        withoutRows();
        theFirstRowByNumbers();
        theEndingStandsBehind();
        wholeIsNothingDoneYet();
        howManyGo();
        whatComes();
        goesOn();
        sixteenTimesAtMost();
        goodByEachLetter();
        goodBeginsWithAVowel();
        goodHasThree();
        goodIsAskedBeforeOthersCome();
        goodPassesToTheNextRow();
        goodHas24AtMost();
        rowAnswersItsNumber();
        fortyRowsAtMost();
        rowEnding();
        rowCome();
        rowGo();
        rowUnknown();
        rowless();
        Desk.end();
    }

    /** A ROW by texts; an empty one comes as NONE. */
    private static int row(Desk d, String ending, boolean whole, int go, String come, boolean on) {
        return d.row(d.know(ending), whole, go, come.isEmpty() ? NONE : d.know(come), on);
    }

    private static void stems(Desk d, String... wordsAndStems) {
        for (int i = 0; i < wordsAndStems.length; i += 2) {
            Desk.due("stem of " + wordsAndStems[i], d.stemmed(3, wordsAndStems[i]), wordsAndStems[i + 1]);
        }
    }

    private static void withoutRows() {
        Desk.says("3 HUSK, by ROWS (none at first)");
        stems(new Desk(), "running", "running", "s", "s", Desk.times("a", 24), Desk.times("a", 24));
    }

    private static void theFirstRowByNumbers() {
        Desk.says("the first ROW, by numbers, whose ENDING the WORD has ... is done");
        Desk d = new Desk();
        row(d, "s", false, 1, "", false);
        row(d, "ings", false, 4, "", false);
        row(d, "ed", false, 1, "", false);
        row(d, "ed", false, 2, "", false);
        stems(d, "runnings", "running", "walked", "walke", "walk", "walk");
    }

    private static void theEndingStandsBehind() {
        Desk.says("whose ENDING the WORD has");
        Desk d = new Desk();
        row(d, "abcdefgh", false, 1, "", false);
        row(d, "i", false, 1, "", false);
        stems(d, "abcdefgh", "abcdefg", "xabcdefgh", "xabcdefg", "bcdefgh", "bcdefgh", "abcdefgx", "abcdefgx",
                "tori", "tor", "into", "into");
    }

    private static void wholeIsNothingDoneYet() {
        Desk.says("whether only of a WORD that is WHOLE yet ... (WHOLE: nothing was done yet)");
        Desk d = new Desk();
        row(d, "s", true, 1, "", true);
        row(d, "ing", false, 3, "", true);
        stems(d, "cats", "cat", "misss", "miss", "missing", "miss", "inginging", "ing");
        Desk still = new Desk();
        row(still, "e", true, 0, "", true);
        row(still, "e", true, 1, "", true);
        Desk.says("(WHOLE: nothing was done yet), also when no letter went and none came");
        stems(still, "mouse", "mouse");
        Desk other = new Desk();
        row(other, "e", true, 8, "", true);
        row(other, "e", true, 1, "", true);
        Desk.says("(WHOLE: nothing was done yet), and a ROW that was passed is not done");
        stems(other, "mouse", "mous");
    }

    private static void howManyGo() {
        Desk.says("how many letters go, 0 to 8");
        Desk none = new Desk();
        row(none, "s", false, 0, "", false);
        row(none, "s", false, 1, "", false);
        stems(none, "cats", "cats", "bs", "bs");
        Desk eight = new Desk();
        row(eight, "s", false, 8, "", false);
        stems(eight, "abcdefghis", "ab", "abcdefghs", "abcdefghs", "ats", "ats", "s", "s", "abcdefgs", "abcdefgs");
        Desk fewer = new Desk();
        row(fewer, "ings", false, 2, "", false);
        stems(fewer, "runnings", "runnin");
    }

    private static void whatComes() {
        Desk.says("what comes, 0 to 4 letters");
        Desk d = new Desk();
        row(d, "ies", false, 3, "y", false);
        row(d, "ly", false, 2, "xyzw", false);
        row(d, "b", false, 0, "cd", false);
        stems(d, "ponies", "pony", "sadly", "sadxyzw", "crab", "crabcd");
    }

    private static void goesOn() {
        Desk.says("if it says so, again from the first ROW on");
        Desk d = new Desk();
        row(d, "e", false, 1, "", false);
        row(d, "s", false, 1, "", true);
        row(d, "t", false, 1, "", false);
        stems(d, "horses", "hors", "cats", "cat", "beats", "bea", "beatt", "beat", "passs", "pas");
    }

    private static void sixteenTimesAtMost() {
        Desk.says("again from the first ROW on (16 times at most)");
        Desk d = new Desk();
        row(d, "a", false, 1, "", true);
        stems(d, Desk.times("a", 17), "aa", Desk.times("a", 18), "aa", Desk.times("a", 19), "aaa",
                Desk.times("a", 24), Desk.times("a", 8));
        Desk around = new Desk();
        row(around, "e", false, 1, "i", true);
        row(around, "i", false, 1, "e", true);
        stems(around, "make", "make", "maki", "maki");
        Desk grow = new Desk();
        row(grow, "a", false, 0, "a", true);
        stems(grow, "aa", Desk.times("a", 18));
    }

    private static void goodByEachLetter() {
        Desk.says("GOOD ... VOWELS are a e i o u.");
        for (char c = 'a'; c <= 'z'; c++) {
            Desk d = new Desk();
            row(d, "s", false, 1, "", false);
            stems(d, c + "bs", "aeiou".indexOf(c) >= 0 ? c + "b" : c + "bs",
                    "bb" + c + "s", "aeiouy".indexOf(c) >= 0 ? "bb" + c : "bb" + c + "s");
        }
    }

    private static void goodBeginsWithAVowel() {
        Desk.says("GOOD: it begins with a VOWEL and has 2 letters or more");
        Desk d = new Desk();
        row(d, "s", false, 1, "", false);
        stems(d, "ads", "ad", "as", "as", "aes", "ae", "ebs", "eb", "ids", "id", "ofs", "of", "ups", "up",
                "yes", "yes", "bes", "bes", "abbs", "abb");
    }

    private static void goodHasThree() {
        Desk.says("GOOD: or 3 or more and a VOWEL or y behind the first");
        Desk d = new Desk();
        row(d, "s", false, 1, "", false);
        stems(d, "bads", "bad", "bas", "bas", "bys", "bys", "skys", "sky", "bbbs", "bbbs", "ybbs", "ybbs",
                "bbes", "bbe", "byds", "byd", "bbbbbbbbbys", "bbbbbbbbby");
        Desk two = new Desk();
        row(two, "as", false, 2, "", false);
        Desk.says("GOOD: a VOWEL behind the first (of what stands there when letters went)");
        stems(two, "bcdas", "bcdas", "bcadas", "bcad");
    }

    private static void goodIsAskedBeforeOthersCome() {
        Desk.says("GOOD (what stands there when letters went, before others come)");
        Desk d = new Desk();
        row(d, "s", false, 1, "aaa", false);
        stems(d, "as", "as", "bbs", "bbs", "bbbs", "bbbs", "ads", "adaaa");
    }

    private static void goodPassesToTheNextRow() {
        Desk.says("the first ROW ... that leaves what is GOOD, is done");
        Desk d = new Desk();
        row(d, "e", false, 8, "", false);
        row(d, "e", false, 2, "", false);
        row(d, "e", false, 1, "", false);
        stems(d, "mouse", "mou", "ape", "ap", "bake", "bak", "the", "the");
    }

    private static void goodHas24AtMost() {
        Desk.says("with what comes it has 24 at most");
        Desk d = new Desk();
        row(d, "b", false, 1, "cccc", false);
        row(d, "bb", false, 2, "d", false);
        row(d, "e", true, 0, "", false);
        row(d, "e", false, 1, "", false);
        stems(d, Desk.times("a", 20) + "b", Desk.times("a", 20) + "cccc", Desk.times("a", 21) + "b",
                Desk.times("a", 21) + "b", Desk.times("a", 21) + "bb", Desk.times("a", 21) + "d",
                Desk.times("e", 24), Desk.times("e", 24));
    }

    private static void rowAnswersItsNumber() {
        Desk.says("A ROW of HUSK: the ENDING is a WORD, what comes another one (NONE: nothing): its number.");
        Desk d = new Desk();
        Desk.due("the first", row(d, "s", true, 1, "", true), 0);
        Desk.due("the second", row(d, "ies", false, 3, "y", false), 1);
        Desk.due("a like one", row(d, "ies", false, 3, "y", false), 2);
        Desk.due("the same WORD twice", row(d, "y", false, 0, "y", false), 3);
        Desk.due("ROWS", d.told(2), 4);
    }

    private static void fortyRowsAtMost() {
        Desk.says("ROWS (40 at most ...) ... row: FULL");
        Desk d = new Desk().knowAll("s", "t");
        for (int i = 0; i < 39; i++) {
            Desk.due("row " + i, d.row(0, false, 8, NONE, false), i);
        }
        Desk.due("the 40th", d.row(1, false, 1, NONE, false), 39);
        Desk.due("the 41st", d.row(0, false, 1, NONE, false), FULL);
        Desk.due("ROWS", d.told(2), 40);
        stems(d, "cats", "cats", "beat", "bea");
        Desk.due("without them there is room", d.rowless(), 40);
        Desk.due("row", d.row(0, false, 1, NONE, false), 0);
        stems(d, "cats", "cat", "beat", "beat");
    }

    private static void rowEnding() {
        Desk.says("row: OUTSIDE: they have more than 8, 4 letters (the ENDING)");
        Desk d = new Desk();
        Desk.due("1 letter", row(d, "s", true, 1, "", true), 0);
        Desk.due("8 letters", row(d, "abcdefgh", true, 1, "", true), 1);
        Desk.due("9 letters", row(d, "abcdefghi", true, 1, "", true), OUTSIDE);
        Desk.due("24 letters", row(d, Desk.times("a", 24), true, 1, "", true), OUTSIDE);
        Desk.due("ROWS", d.told(2), 2);
    }

    private static void rowCome() {
        Desk.says("row: OUTSIDE: they have more than 8, 4 letters (what comes)");
        Desk d = new Desk();
        Desk.due("nothing", row(d, "s", true, 1, "", true), 0);
        Desk.due("1 letter", row(d, "s", true, 1, "a", true), 1);
        Desk.due("4 letters", row(d, "s", true, 1, "abcd", true), 2);
        Desk.due("5 letters", row(d, "s", true, 1, "abcde", true), OUTSIDE);
        Desk.due("8 letters", row(d, "s", true, 1, "abcdefgh", true), OUTSIDE);
        Desk.due("ROWS", d.told(2), 3);
    }

    private static void rowGo() {
        Desk.says("row: OUTSIDE: go is not 0 to 8");
        Desk d = new Desk();
        Desk.due("0", row(d, "s", true, 0, "", true), 0);
        Desk.due("8", row(d, "s", true, 8, "", true), 1);
        for (int go : new int[] {-1, 9, Integer.MIN_VALUE, Integer.MAX_VALUE}) {
            Desk.due("" + go, row(d, "s", true, go, "", true), OUTSIDE);
        }
        Desk.due("ROWS", d.told(2), 2);
    }

    private static void rowUnknown() {
        Desk.says("row: UNKNOWN");
        Desk d = new Desk().knowAll("s");
        Desk.due("the ENDING", d.row(1, true, 1, 0, true), UNKNOWN);
        Desk.due("no ENDING", d.row(NONE, true, 1, 0, true), UNKNOWN);
        Desk.due("what comes", d.row(0, true, 1, 1, true), UNKNOWN);
        Desk.due("-1 comes", d.row(0, true, 1, -1, true), UNKNOWN);
        Desk.due("ROWS", d.told(2), 0);
    }

    private static void rowless() {
        Desk.says("No ROWS: how many there were.");
        Desk d = new Desk();
        Desk.due("none", d.rowless(), 0);
        row(d, "s", false, 1, "", false);
        row(d, "t", false, 1, "", false);
        Desk.due("two", d.rowless(), 2);
        Desk.due("ROWS", d.told(2), 0);
        Desk.due("none any more", d.rowless(), 0);
        stems(d, "cats", "cats");
        Desk.due("numbers from 0 on", row(d, "ts", false, 2, "", false), 0);
        stems(d, "beats", "bea", "cats", "cats", "runs", "runs");
    }
}
