/** Promises 14 to 17, BASES and PARTS: a test for each sentence. */
public final class BasesAndPartsTest {
    private static final int OUTSIDE = Desk.OUTSIDE, NONE = Desk.NONE, UNKNOWN = Desk.UNKNOWN, FULL = Desk.FULL;

    public static void main(String[] args) {
        affixAnswersItsNumber();
        twentyAffixesAtMost();
        affixLetters();
        affixUnknown();
        behind();
        before();
        anAffixThatItHas();
        aLetterMoreAtLeast();
        baseHas24AtMost();
        baseIsAMember();
        theWordItselfFirst();
        byNumbersEachOnce();
        mostBases();
        notSoManyBases();
        leastAnswersWhatItWas();
        leastOutside();
        partsAreMembers();
        partsHaveLeastLetters();
        twoPartsOrMore();
        partsAreTheWholeWord();
        theFewestParts();
        theLongestFirst();
        partByIndex();
        manyParts();
        Desk.end();
    }

    /** An AFFIX by texts; an empty one instead is NONE. */
    private static int affix(Desk d, boolean behind, String has, String instead) {
        return d.affix(behind, d.know(has), instead.isEmpty() ? NONE : d.know(instead));
    }

    private static void affixAnswersItsNumber() {
        Desk.says("An AFFIX: what a form has is a WORD, what its base has instead another one (NONE: nothing): its number.");
        Desk d = new Desk();
        Desk.due("the first", affix(d, true, "s", ""), 0);
        Desk.due("the second", affix(d, false, "un", "re"), 1);
        Desk.due("a like one", affix(d, false, "un", "re"), 2);
        Desk.due("AFFIXES", d.told(3), 3);
    }

    private static void twentyAffixesAtMost() {
        Desk.says("AFFIXES (20 at most) ... affix: FULL");
        Desk d = new Desk().knowAll("xx", "s");
        for (int i = 0; i < 19; i++) {
            Desk.due("affix " + i, d.affix(true, 0, NONE), i);
        }
        Desk.due("the 20th", d.affix(true, 1, NONE), 19);
        Desk.due("the 21st", d.affix(false, 1, NONE), FULL);
        Desk.due("AFFIXES", d.told(3), 20);
        d.members("cat", "cats");
        Desk.due("the 20th serves", d.bases("cats"), "cats cat");
        Desk.due("the 21st does not", d.bases("scats"), "");
    }

    private static void affixLetters() {
        Desk.says("affix: OUTSIDE: more than 8 letters");
        Desk d = new Desk();
        Desk.due("1 letter", affix(d, true, "a", "a"), 0);
        Desk.due("8 letters", affix(d, true, "abcdefgh", ""), 1);
        Desk.due("8 letters instead", affix(d, false, "a", "abcdefgh"), 2);
        Desk.due("9 letters", affix(d, true, "abcdefghi", ""), OUTSIDE);
        Desk.due("9 letters instead", affix(d, false, "a", "abcdefghi"), OUTSIDE);
        Desk.due("24 letters", affix(d, true, Desk.times("a", 24), "a"), OUTSIDE);
        Desk.due("AFFIXES", d.told(3), 3);
    }

    private static void affixUnknown() {
        Desk.says("affix: UNKNOWN");
        Desk d = new Desk().knowAll("s");
        Desk.due("what a form has", d.affix(true, 1, 0), UNKNOWN);
        Desk.due("nothing that a form has", d.affix(true, NONE, 0), UNKNOWN);
        Desk.due("what its base has instead", d.affix(true, 0, 1), UNKNOWN);
        Desk.due("-1 instead", d.affix(true, 0, -1), UNKNOWN);
        Desk.due("AFFIXES", d.told(3), 0);
    }

    private static void behind() {
        Desk.says("before or behind, what a form has there, what its base has instead");
        Desk d = new Desk();
        affix(d, true, "ing", "e");
        affix(d, true, "s", "");
        d.members("make", "cat", "ingmake", "abcdefgh");
        affix(d, true, "hgfedcba", "abcdefgh");
        Desk.due("instead", d.bases("making"), "make");
        Desk.due("nothing instead", d.bases("cats"), "cat");
        Desk.due("not before", d.bases("scat"), "");
        Desk.due("not between", d.bases("makinga"), "");
        d.member("xabcdefgh");
        Desk.due("8 for 8", d.bases("xhgfedcba"), "xabcdefgh");
    }

    private static void before() {
        Desk.says("before or behind, what a form has there, what its base has instead (before)");
        Desk d = new Desk();
        affix(d, false, "un", "");
        affix(d, false, "un", "re");
        affix(d, false, "a", "abcdefgh");
        d.members("done", "redone", "abcdefghb");
        Desk.due("both", d.bases("undone"), "done redone");
        Desk.due("not behind", d.bases("doneun"), "");
        Desk.due("8 for 1", d.bases("ab"), "abcdefghb");
        Desk.due("one change each", d.bases("ununundone"), "");
    }

    private static void anAffixThatItHas() {
        Desk.says("A BASE of a WORD by an AFFIX that it has");
        Desk d = new Desk();
        affix(d, true, "s", "");
        affix(d, false, "un", "");
        d.members("ca", "do", "done", "sca", "nedone");
        Desk.due("another letter behind", d.bases("cat"), "");
        Desk.due("other letters before", d.bases("indone"), "");
        Desk.due("it stands before, not behind", d.bases("scat"), "");
        Desk.due("it stands behind, not before", d.bases("doneun"), "");
    }

    private static void aLetterMoreAtLeast() {
        Desk.says("an AFFIX that it has (with a letter more, at least)");
        Desk d = new Desk();
        affix(d, true, "ab", "cd");
        affix(d, false, "ab", "ef");
        d.members("cd", "ef", "xcd", "efx");
        Desk.due("no letter more", d.bases("ab"), "");
        Desk.due("one more, behind", d.bases("xab"), "xcd");
        Desk.due("one more, before", d.bases("abx"), "efx");
        Desk.due("one less", d.bases("b"), "");
    }

    private static void baseHas24AtMost() {
        Desk.says("if it has 24 letters at most");
        String x16 = Desk.times("x", 16);
        Desk d = new Desk();
        affix(d, true, "ab", "cccccccc");
        affix(d, false, "ab", "cccccccc");
        d.members(x16 + "cccccccc", "cccccccc" + x16);
        Desk.due("24, behind", d.bases(x16 + "ab"), x16 + "cccccccc");
        Desk.due("24, before", d.bases("ab" + x16), "cccccccc" + x16);
        d.members(x16 + "xccccccc");
        Desk.due("25, behind, is not cut", d.bases(x16 + "xab"), "");
        Desk.due("25, before, is not cut", d.bases("ab" + x16 + "x"), "");
    }

    private static void baseIsAMember() {
        Desk.says("and is a MEMBER of the dictionary");
        Desk d = new Desk();
        affix(d, true, "s", "");
        Desk.due("not KNOWN", d.bases("cats"), "");
        Desk.due("none became KNOWN", d.told(0), 2);
        int cat = d.know("cat");
        Desk.due("KNOWN", d.bases("cats"), "");
        d.mark(0, cat, true);
        d.mark(1, cat, true);
        Desk.due("with other marks", d.bases("cats"), "");
        d.mark(2, cat, true);
        Desk.due("a MEMBER", d.bases("cats"), "cat");
        d.mark(2, cat, false);
        Desk.due("a MEMBER no more", d.bases("cats"), "");
    }

    private static void theWordItselfFirst() {
        Desk.says("THE BASES: the WORD itself, if it is a MEMBER, then those by AFFIXES");
        Desk d = new Desk();
        Desk.due("no AFFIXES, no MEMBER", d.bases("cats"), "");
        d.members("cats", "cat");
        Desk.due("no AFFIXES", d.bases("cats"), "cats");
        affix(d, true, "s", "");
        Desk.due("first", d.bases("cats"), "cats cat");
        d.mark(2, d.know("cats"), false);
        Desk.due("no MEMBER", d.bases("cats"), "cat");
    }

    private static void byNumbersEachOnce() {
        Desk.says("by numbers, each once");
        Desk d = new Desk();
        affix(d, true, "s", "s");
        affix(d, true, "ts", "r");
        affix(d, true, "s", "");
        affix(d, true, "ts", "t");
        d.members("cat", "car");
        Desk.due("by the numbers of AFFIXES, not of WORDS", d.bases("cats"), "car cat");
        d.members("cats");
        Desk.due("the WORD once", d.bases("cats"), "cats car cat");
    }

    private static void mostBases() {
        Desk.says("THE BASES: the WORD itself ... then those by AFFIXES (21 in all)");
        Desk d = new Desk();
        int cats = d.member("cats");
        for (int i = 0; i < 20; i++) {
            affix(d, true, "s", Desk.nth(i));
            d.member("cat" + Desk.nth(i));
        }
        Desk.due("BASE 0", d.base(cats, 0), cats);
        Desk.due("BASE 20", d.spelled(d.base(cats, 20)), "cat" + Desk.nth(19));
        Desk.due("BASE 21", d.base(cats, 21), NONE);
    }

    private static void notSoManyBases() {
        Desk.says("BASE k of a WORD: its number. UNKNOWN; NONE: there are not so many.");
        Desk d = new Desk();
        int cat = d.member("cat");
        int dog = d.know("dog");
        Desk.due("BASE 0", d.base(cat, 0), cat);
        for (int k : new int[] {1, -1, 21, 22, Integer.MIN_VALUE, Integer.MAX_VALUE}) {
            Desk.due("BASE " + k, d.base(cat, k), NONE);
        }
        Desk.due("BASE 0 of none", d.base(dog, 0), NONE);
        Desk.due("UNKNOWN", d.base(2, 0), UNKNOWN);
    }

    private static void leastAnswersWhatItWas() {
        Desk.says("LEAST becomes n: what it was. (2 to 12; 3 at first)");
        Desk d = new Desk();
        Desk.due("3 at first", d.least(2), 3);
        Desk.due("2", d.least(12), 2);
        Desk.due("12", d.least(12), 12);
        Desk.due("12 again", d.least(7), 12);
    }

    private static void leastOutside() {
        Desk.says("least: OUTSIDE.");
        Desk d = new Desk();
        for (int n : new int[] {1, 13, 0, -1, Integer.MIN_VALUE, Integer.MAX_VALUE}) {
            Desk.due("least(" + n + ")", d.least(n), OUTSIDE);
        }
        Desk.due("refused ones change nothing", d.least(3), 3);
    }

    private static void partsAreMembers() {
        Desk.says("PARTS: MEMBERS ... of which two or more side by side are the WORD");
        Desk d = new Desk().members("house", "boat");
        int man = d.know("man");
        Desk.due("MEMBERS", d.parts("houseboat"), "house boat");
        Desk.due("the same one twice", d.parts("boatboat"), "boat boat");
        Desk.due("no MEMBER", d.parts("boatman"), "");
        d.mark(0, man, true);
        d.mark(1, man, true);
        Desk.due("other marks", d.parts("boatman"), "");
        d.mark(2, man, true);
        Desk.due("a MEMBER", d.parts("boatman"), "boat man");
        d.mark(2, man, false);
        Desk.due("a MEMBER no more", d.parts("boatman"), "");
    }

    private static void partsHaveLeastLetters() {
        Desk.says("each of LEAST letters (2 to 12; 3 at first) or more");
        Desk d = new Desk().members("in", "out", "house", "s");
        Desk.due("2 letters at first", d.parts("inhouse"), "");
        Desk.due("3 letters at first", d.parts("outhouse"), "out house");
        d.least(2);
        Desk.due("2 letters, LEAST 2", d.parts("inhouse"), "in house");
        Desk.due("1 letter, LEAST 2", d.parts("houses"), "");
        d.least(4);
        Desk.due("3 letters, LEAST 4", d.parts("outhouse"), "");
        d.least(5);
        Desk.due("5 letters, LEAST 5", d.parts("househouse"), "house house");
        d.least(6);
        Desk.due("5 letters, LEAST 6", d.parts("househouse"), "");
        String a12 = Desk.times("a", 12);
        d.members(a12, Desk.times("b", 11), Desk.times("c", 11));
        d.least(12);
        Desk.due("12 letters, LEAST 12", d.parts(a12 + a12), a12 + " " + a12);
        Desk.due("11 letters, LEAST 12", d.parts(Desk.times("b", 11) + Desk.times("c", 11)), "");
    }

    private static void twoPartsOrMore() {
        Desk.says("two or more side by side");
        Desk d = new Desk().members("house", "boat", "houseboat");
        Desk.due("one alone is none", d.part(d.know("house"), -1), 0);
        Desk.due("the WORD is no PART of itself", d.parts("houseboat"), "house boat");
        Desk.due("it is one of another", d.parts("houseboathouse"), "houseboat house");
    }

    private static void partsAreTheWholeWord() {
        Desk.says("side by side are the WORD");
        Desk d = new Desk().members("house", "boat", "sea");
        Desk.due("a letter behind", d.parts("houseboats"), "");
        Desk.due("a letter before", d.parts("ahouseboat"), "");
        Desk.due("a letter between", d.parts("housesboat"), "");
        Desk.due("one over the other", d.parts("houseaboat"), "");
    }

    private static void theFewestParts() {
        Desk.says("of all such rows the fewest PARTS");
        Desk d = new Desk().members("abcd", "ef", "gh", "abc", "defgh");
        d.least(2);
        Desk.due("two, though the first is shorter", d.parts("abcdefgh"), "abc defgh");
        Desk turned = new Desk().members("defgh", "abc", "gh", "ef", "abcd");
        turned.least(2);
        Desk.due("whichever has the higher number", turned.parts("abcdefgh"), "abc defgh");
    }

    private static void theLongestFirst() {
        Desk.says("of these the one with the longest first, then second PART, and so on");
        for (String numbers : new String[] {"aa aaa aaaa", "aaaa aaa aa", "aaa aaaa aa"}) {
            Desk d = new Desk().members(numbers.split(" "));
            d.least(2);
            Desk.due("the first of two", d.parts("aaaaa"), "aaa aa");
            Desk.due("two", d.parts("aaaaaa"), "aaaa aa");
            Desk.due("the second of three", d.parts(Desk.times("a", 9)), "aaaa aaa aa");
            Desk.due("the third of four", d.parts(Desk.times("a", 13)), "aaaa aaaa aaa aa");
        }
    }

    private static void partByIndex() {
        Desk.says("PART k of a WORD: its number; k = -1: how many (0: it has none). UNKNOWN; NONE: no such one.");
        Desk d = new Desk().members("house", "boat");
        int word = d.know("houseboat");
        Desk.due("k = -1", d.part(word, -1), 2);
        Desk.due("k = 0", d.part(word, 0), 0);
        Desk.due("k = 1", d.part(word, 1), 1);
        for (int k : new int[] {2, -2, 24, 25, Integer.MIN_VALUE, Integer.MAX_VALUE}) {
            Desk.due("k = " + k, d.part(word, k), NONE);
        }
        Desk.due("none, k = -1", d.part(0, -1), 0);
        Desk.due("none, k = 0", d.part(0, 0), NONE);
        Desk.due("UNKNOWN, k = -1", d.part(3, -1), UNKNOWN);
        Desk.due("UNKNOWN, k = 0", d.part(-1, 0), UNKNOWN);
        Desk.due("none became KNOWN", d.told(0), 3);
    }

    private static void manyParts() {
        Desk.says("PARTS ... each of LEAST letters (2 to 12) (twelve of 24 letters)");
        Desk d = new Desk().members("ab");
        d.least(2);
        int word = d.know(Desk.times("ab", 12));
        Desk.due("how many", d.part(word, -1), 12);
        Desk.due("the last", d.part(word, 11), 0);
        Desk.due("behind it", d.part(word, 12), NONE);
    }
}
