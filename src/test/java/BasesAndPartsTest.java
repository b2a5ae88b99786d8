/** Promises 14 to 17: affix, base, least, part. */
public final class BasesAndPartsTest {
    private static final int NONE = StemRules.NONE, OUTSIDE = StemRules.OUTSIDE;
    private static final int UNKNOWN = StemRules.UNKNOWN, FULL = StemRules.FULL;

    public static void main(String[] args) {
        affixRefusals();
        bases();
        basesEachOnce();
        basesAtTheirEdges();
        mostBases();
        least();
        parts();
        partsFewest();
        partsLongest();
        Desk.end();
    }

    private static void affixRefusals() {
        Desk d = new Desk();
        int eight = d.know("abcdefgh");
        int nine = d.know("abcdefghi");
        Desk.due("8 letters", d.rules.affix(true, eight, eight), 0);
        Desk.due("9 letters", d.rules.affix(true, nine, eight), OUTSIDE);
        Desk.due("9 letters instead", d.rules.affix(false, eight, nine), OUTSIDE);
        Desk.due("UNKNOWN", d.rules.affix(true, 2, nine), UNKNOWN);
        Desk.due("nothing to have", d.rules.affix(true, NONE, eight), UNKNOWN);
        Desk.due("UNKNOWN instead", d.rules.affix(true, nine, 2), UNKNOWN);
        Desk.due("-1 instead", d.rules.affix(true, eight, -1), UNKNOWN);
        Desk.due("refused ones are no AFFIXES", d.rules.told(3), 1);
        for (int i = 1; i < 20; i++) {
            Desk.due("affix " + i, d.rules.affix(i % 2 == 0, eight, NONE), i);
        }
        Desk.due("21 AFFIXES", d.rules.affix(true, eight, NONE), FULL);
        Desk.due("OUTSIDE before FULL", d.rules.affix(true, nine, NONE), OUTSIDE);
        Desk.due("told", d.rules.told(3), 20);
    }

    private static void bases() {
        Desk d = new Desk();
        int ing = d.know("ing");
        int e = d.know("e");
        int un = d.know("un");
        int re = d.know("re");
        d.rules.affix(true, ing, e);
        d.rules.affix(true, ing, NONE);
        d.rules.affix(false, un, NONE);
        d.rules.affix(false, un, re);
        int make = d.member("make");
        d.know("mak");
        Desk.due("instead", d.bases("making"), "make");
        int making = d.know("making");
        Desk.due("base 0", d.rules.base(making, 0), make);
        Desk.due("base 1", d.rules.base(making, 1), NONE);
        Desk.due("base -1", d.rules.base(making, -1), NONE);
        Desk.due("base of UNKNOWN", d.rules.base(99, 0), UNKNOWN);
        d.member("making");
        Desk.due("the WORD itself first", d.bases("making"), "making make");
        d.member("mak");
        Desk.due("by the numbers of AFFIXES", d.bases("making"), "making make mak");
        d.member("done");
        d.member("redone");
        Desk.due("before", d.bases("undone"), "done redone");
        Desk.due("one change each", d.bases("unmaking"), "making");
        d.rules.mark(2, make, false);
        Desk.due("a MEMBER no more", d.bases("making"), "making mak");
        int known = d.rules.told(0);
        d.rules.base(making, 0);
        Desk.due("none becomes KNOWN", d.rules.told(0), known);
    }

    private static void basesEachOnce() {
        Desk d = new Desk();
        int s = d.know("s");
        int ts = d.know("ts");
        int t = d.know("t");
        d.rules.affix(true, s, s);
        d.rules.affix(true, s, NONE);
        d.rules.affix(true, ts, t);
        d.member("cat");
        Desk.due("each once", d.bases("cats"), "cat");
        d.member("cats");
        Desk.due("the WORD once", d.bases("cats"), "cats cat");
    }

    private static void basesAtTheirEdges() {
        Desk d = new Desk();
        int ab = d.know("ab");
        int eight = d.know("cccccccc");
        d.rules.affix(true, ab, eight);
        d.rules.affix(false, ab, eight);
        d.member("cccccccc");
        Desk.due("no letter more", d.bases("ab"), "");
        d.member("xcccccccc");
        Desk.due("a letter more", d.bases("xab"), "xcccccccc");
        d.member(Desk.times("x", 16) + "cccccccc");
        Desk.due("24 letters", d.bases(Desk.times("x", 16) + "ab"), Desk.times("x", 16) + "cccccccc");
        d.member("ccccccccb" + Desk.times("x", 15));
        Desk.due("24 letters, before", d.bases("abb" + Desk.times("x", 15)), "ccccccccb" + Desk.times("x", 15));
        Desk.due("25 letters", d.bases(Desk.times("x", 17) + "ab"), "");
        d.member("cccccccc" + Desk.times("x", 16));
        Desk.due("25 letters are not cut", d.bases("ab" + Desk.times("x", 17)), "");
    }

    private static void mostBases() {
        Desk d = new Desk();
        int s = d.know("s");
        d.member("cats");
        for (int i = 0; i < 20; i++) {
            d.rules.affix(true, s, d.know(Desk.nth(i)));
            d.member("cat" + Desk.nth(i));
        }
        Desk.due("BASE 20", d.spelled(d.rules.base(d.know("cats"), 20)), "cat" + Desk.nth(19));
        Desk.due("BASE 21", d.rules.base(d.know("cats"), 21), NONE);
    }

    private static void least() {
        StemRules x = new StemRules();
        Desk.due("least(12)", x.least(12), 3);
        Desk.due("least(2)", x.least(2), 12);
        Desk.due("least(1)", x.least(1), OUTSIDE);
        Desk.due("least(13)", x.least(13), OUTSIDE);
        Desk.due("refused changes nothing", x.least(5), 2);
    }

    private static void parts() {
        Desk d = new Desk();
        d.member("house");
        d.member("boat");
        d.member("s");
        d.member("in");
        d.know("man");
        int word = d.know("houseboat");
        Desk.due("how many", d.rules.part(word, -1), 2);
        Desk.due("part 0", d.rules.part(word, 0), 0);
        Desk.due("part 1", d.rules.part(word, 1), 1);
        Desk.due("part 2", d.rules.part(word, 2), NONE);
        Desk.due("part -2", d.rules.part(word, -2), NONE);
        Desk.due("part of UNKNOWN", d.rules.part(99, -1), UNKNOWN);
        Desk.due("one alone is none", d.rules.part(0, -1), 0);
        Desk.due("none has no part 0", d.rules.part(0, 0), NONE);
        Desk.due("no MEMBER", d.parts("manboat"), "");
        Desk.due("the end is left", d.parts("houseboats"), "");
        Desk.due("fewer than LEAST", d.parts("inhouse"), "");
        d.rules.least(2);
        Desk.due("LEAST is 2", d.parts("inhouse"), "in house");
        d.rules.least(5);
        Desk.due("LEAST is 5", d.parts("houseboat"), "");
        Desk.due("the same one again", d.parts("househouse"), "house house");
        d.rules.least(2);
        Desk.due("twelve", d.parts(Desk.times("in", 12)), Desk.times("in ", 12).trim());
        d.member("houseboat");
        Desk.due("the WORD is no PART of itself", d.parts("houseboat"), "house boat");
    }

    private static void partsFewest() {
        Desk d = new Desk();
        for (String member : new String[] {"abcd", "ef", "gh", "abc", "defgh"}) {
            d.member(member);
        }
        d.rules.least(2);
        Desk.due("fewest before longest", d.parts("abcdefgh"), "abc defgh");
        d.member("efgh");
        Desk.due("longest of the fewest", d.parts("abcdefgh"), "abcd efgh");
    }

    private static void partsLongest() {
        Desk d = new Desk();
        for (String member : new String[] {"aa", "aaa", "aaaa"}) {
            d.member(member);
        }
        d.rules.least(2);
        Desk.due("5", d.parts("aaaaa"), "aaa aa");
        Desk.due("6", d.parts("aaaaaa"), "aaaa aa");
        Desk.due("9", d.parts(Desk.times("a", 9)), "aaaa aaa aa");
        Desk.due("10", d.parts(Desk.times("a", 10)), "aaaa aaaa aa");
        Desk.due("3 is no row of two", d.parts("aaa"), "");
        Desk.due("4, itself a MEMBER", d.parts("aaaa"), "aa aa");
    }
}
