/** Promises 7 to 13: stem, step, measure, mark, pair, row, rowless. */
public final class StemsTest {
    private static final int NONE = StemRules.NONE, OUTSIDE = StemRules.OUTSIDE;
    private static final int UNKNOWN = StemRules.UNKNOWN, FULL = StemRules.FULL;

    public static void main(String[] args) {
        stemmersByNumber();
        plurals();
        porter();
        porterSteps();
        porterEdges();
        stepRefusals();
        measure();
        marks();
        pairs();
        huskRows();
        huskGood();
        huskTimes();
        rowRefusals();
        rowless();
        Desk.end();
    }

    private static void stems(int stemmer, String... pairs) {
        Desk d = new Desk();
        for (int i = 0; i < pairs.length; i += 2) {
            Desk.due("stem " + stemmer + " of " + pairs[i], d.stemmed(stemmer, pairs[i]), pairs[i + 1]);
        }
    }

    private static void steps(int step, String... pairs) {
        Desk d = new Desk();
        for (int i = 0; i < pairs.length; i += 2) {
            Desk.due("step " + step + " of " + pairs[i], d.stepped(step, pairs[i]), pairs[i + 1]);
        }
    }

    private static void stemmersByNumber() {
        Desk d = new Desk();
        d.know("ponies");
        Desk.due("stem(0)", d.rules.stem(0, 0), 6);
        Desk.due("0 is the WORD", d.shown(), "ponies");
        Desk.due("stem(1)", d.rules.stem(1, 0), 4);
        Desk.due("stem(2)", d.rules.stem(2, 0), 4);
        Desk.due("2 is PORTER", d.shown(), "poni");
        Desk.due("stem(3)", d.rules.stem(3, 0), 6);
        Desk.due("stem(4)", d.rules.stem(4, 0), OUTSIDE);
        Desk.due("stem(-1)", d.rules.stem(-1, 0), OUTSIDE);
        Desk.due("stem of UNKNOWN", d.rules.stem(2, 1), UNKNOWN);
        Desk.due("UNKNOWN before OUTSIDE", d.rules.stem(4, 1), UNKNOWN);
        Desk.due("stems of stem() do not become KNOWN", d.rules.told(0), 1);
    }

    private static void plurals() {
        stems(1, "ponies", "pony", "ies", "y", "eies", "eie", "aies", "aie", "horses", "horse", "es", "e",
                "aes", "ae", "trees", "tree", "goes", "goe", "cats", "cat", "as", "a", "s", "s", "us", "us",
                "ss", "ss", "corpus", "corpus", "glass", "glass", "glasses", "glasse", "cat", "cat", "a", "a");
    }

    private static void porter() {
        stems(2, "caresses", "caress", "ponies", "poni", "ties", "ti", "cats", "cat", "feed", "feed",
                "agreed", "agre", "plastered", "plaster", "bled", "bled", "motoring", "motor", "sing", "sing",
                "conflated", "conflat", "troubled", "troubl", "sized", "size", "happy", "happi", "sky", "sky",
                "relational", "relat", "conditional", "condit", "rational", "ration", "digitizer", "digit",
                "vietnamization", "vietnam", "predication", "predic", "operator", "oper", "feudalism", "feudal",
                "decisiveness", "decis", "hopefulness", "hope", "callousness", "callous", "formaliti", "formal",
                "sensitiviti", "sensit", "sensibiliti", "sensibl", "generalizations", "gener",
                "oscillators", "oscil", "controlling", "control", "rolling", "roll", "probate", "probat",
                "rate", "rate", "cease", "ceas");
    }

    private static void porterSteps() {
        steps(0, "caresses", "caress", "ponies", "poni", "ties", "ti", "caress", "caress", "cats", "cat", "ies", "i");
        steps(1, "feed", "feed", "agreed", "agree", "plastered", "plaster", "bled", "bled", "motoring", "motor",
                "sing", "sing", "conflated", "conflate", "troubled", "trouble", "sized", "size", "hopping", "hop",
                "tanned", "tan", "falling", "fall", "hissing", "hiss", "fizzed", "fizz", "failing", "fail",
                "filing", "file", "realized", "realize", "resting", "rest", "fixing", "fix", "rowing", "row", "playing", "play", "cats", "cat");
        steps(2, "happy", "happi", "sky", "sky", "enjoy", "enjoi", "happily", "happili", "syzygy", "syzygi");
        steps(3, "relational", "relate", "conditional", "condition", "rational", "rational", "valenci", "valence",
                "hesitanci", "hesitance", "digitizer", "digitize", "conformabli", "conformable", "radicalli", "radical",
                "differentli", "different", "vileli", "vile", "analogousli", "analogous", "vietnamization", "vietnamize",
                "predication", "predicate", "operator", "operate", "feudalism", "feudal", "decisiveness", "decisive",
                "hopefulness", "hopeful", "callousness", "callous", "formaliti", "formal", "sensitiviti", "sensitive",
                "sensibiliti", "sensible", "bli", "bli", "analogi", "analogi");
        steps(4, "triplicate", "triplic", "formative", "form", "formalize", "formal", "electriciti", "electric",
                "electrical", "electric", "hopeful", "hope", "goodness", "good", "native", "native");
        steps(5, "revival", "reviv", "allowance", "allow", "inference", "infer", "airliner", "airlin",
                "gyroscopic", "gyroscop", "adjustable", "adjust", "defensible", "defens", "irritant", "irrit",
                "replacement", "replac", "adjustment", "adjust", "dependent", "depend", "adoption", "adopt",
                "homologou", "homolog", "communism", "commun", "activate", "activ", "angulariti", "angular",
                "homologous", "homolog", "effective", "effect", "bowdlerize", "bowdler", "decision", "decis",
                "companion", "companion", "nation", "nation", "analogousli", "analog", "element", "element", "agement", "agement");
        steps(6, "probate", "probat", "rate", "rate", "cease", "ceas", "controll", "controll", "agree", "agre");
        steps(7, "controll", "control", "roll", "roll", "probate", "probat");
    }

    private static void porterEdges() {
        stems(2, "s", "s", "as", "as", "is", "is", "ed", "ed", "by", "by", "ays", "ai", "ing", "ing", "eed", "eed",
                "aed", "a", "yed", "yed", "yying", "yy", "ebbed", "eb", "toyed", "toi", "say", "sai",
                Desk.times("a", 23) + "s", Desk.times("a", 23), Desk.times("b", 24), Desk.times("b", 24));
    }

    private static void stepRefusals() {
        Desk d = new Desk();
        d.know("cats", "rule");
        Desk.due("step(0, 0)", d.rules.step(0, 0), 3);
        Desk.due("step(0, 8)", d.rules.step(0, 8), OUTSIDE);
        Desk.due("step(0, -1)", d.rules.step(0, -1), OUTSIDE);
        Desk.due("step(2, 0)", d.rules.step(2, 0), UNKNOWN);
        Desk.due("UNKNOWN before OUTSIDE", d.rules.step(2, 8), UNKNOWN);
        d.rules.mark(0, 0, true);
        d.rules.step(0, 7);
        Desk.due("PROTECTED, step goes on", d.shown(), "cat");
        d.rules.mark(0, 0, false);
        d.rules.pair(0, 1);
        d.rules.step(0, 7);
        Desk.due("with a PAIR, step goes on", d.shown(), "cat");
    }

    private static void measure() {
        Desk d = new Desk();
        String[] words = {"tr", "ee", "tree", "y", "by", "trouble", "oats", "trees", "ivy", "troubles", "private",
            "oaten", "orrery", "yy", "ayy", "yay", "toy", "syzygy", "a", "ab"};
        int[] due = {0, 0, 0, 0, 0, 1, 1, 1, 1, 2, 2, 2, 2, 0, 1, 1, 1, 2, 0, 1};
        for (int i = 0; i < words.length; i++) {
            Desk.due("measure of " + words[i], d.rules.measure(d.know(words[i])), due[i]);
        }
        Desk.due("measure of one before", d.rules.measure(9), 2);
        Desk.due("measure of 24 letters", d.rules.measure(d.know(Desk.times("ab", 12))), 12);
        Desk.due("measure of UNKNOWN", d.rules.measure(99), UNKNOWN);
        Desk.due("measure of -1", d.rules.measure(-1), UNKNOWN);
    }

    private static void marks() {
        Desk d = new Desk();
        d.know("cats");
        for (int what = 0; what <= 2; what++) {
            Desk.due("mark off at first", d.rules.mark(what, 0, false), 0);
            Desk.due("mark", d.rules.mark(what, 0, true), 1);
            Desk.due("mark again", d.rules.mark(what, 0, true), 0);
            Desk.due("mark off", d.rules.mark(what, 0, false), 1);
        }
        Desk.due("mark(3)", d.rules.mark(3, 0, true), OUTSIDE);
        Desk.due("mark(-1)", d.rules.mark(-1, 0, true), OUTSIDE);
        Desk.due("mark UNKNOWN", d.rules.mark(0, 1, true), UNKNOWN);
        Desk.due("UNKNOWN before OUTSIDE", d.rules.mark(3, 1, true), UNKNOWN);
        d.rules.row(d.know("s"), false, 1, NONE, false);
        d.rules.mark(1, 0, true);
        d.rules.mark(2, 0, true);
        for (int stemmer = 1; stemmer <= 3; stemmer++) {
            Desk.due("other marks do not protect " + stemmer, d.stemmed(stemmer, "cats"), "cat");
        }
        d.rules.mark(0, 0, true);
        for (int stemmer = 0; stemmer <= 3; stemmer++) {
            Desk.due("PROTECTED from " + stemmer, d.stemmed(stemmer, "cats"), "cats");
        }
        d.rules.mark(0, 0, false);
        Desk.due("PROTECTED no more", d.stemmed(1, "cats"), "cat");
    }

    private static void pairs() {
        Desk d = new Desk();
        d.know("mice", "mouse", "rats");
        Desk.due("pair", d.rules.pair(0, 1), NONE);
        Desk.due("pair again", d.rules.pair(0, 2), 1);
        for (int stemmer = 1; stemmer <= 3; stemmer++) {
            Desk.due("PAIR by " + stemmer, d.stemmed(stemmer, "mice"), "rats");
        }
        Desk.due("0 is the WORD", d.stemmed(0, "mice"), "mice");
        d.rules.mark(0, 0, true);
        Desk.due("PROTECTED before a PAIR", d.stemmed(2, "mice"), "mice");
        d.rules.mark(0, 0, false);
        Desk.due("pair UNKNOWN", d.rules.pair(3, 1), UNKNOWN);
        Desk.due("pair with UNKNOWN", d.rules.pair(0, 3), UNKNOWN);
        Desk.due("pair with -1", d.rules.pair(0, -1), UNKNOWN);
        Desk.due("pair of NONE", d.rules.pair(NONE, 1), UNKNOWN);
        Desk.due("a PAIR of a PAIR", d.rules.pair(2, 1), NONE);
        Desk.due("is not followed", d.stemmed(1, "mice"), "rats");
        Desk.due("pair off", d.rules.pair(0, NONE), 2);
        Desk.due("pair off again", d.rules.pair(0, NONE), NONE);
        Desk.due("no PAIR", d.stemmed(2, "mice"), "mice");
        Desk.due("a PAIR with itself", d.rules.pair(2, 2), 1);
        Desk.due("is its stem", d.stemmed(1, "rats"), "rats");
    }

    private static void huskRows() {
        Desk d = new Desk();
        int ing = d.know("ing");
        int s = d.know("s");
        int y = d.know("y");
        int ies = d.know("ies");
        Desk.due("row 0", d.rules.row(ies, false, 3, y, false), 0);
        Desk.due("row 1", d.rules.row(s, true, 1, NONE, true), 1);
        Desk.due("row 2", d.rules.row(ing, false, 3, NONE, true), 2);
        Desk.due("what comes", d.stemmed(3, "ponies"), "pony");
        Desk.due("goes on", d.stemmed(3, "runnings"), "runn");
        Desk.due("WHOLE once alone", d.stemmed(3, "misss"), "miss");
        Desk.due("WHOLE no more", d.stemmed(3, "missing"), "miss");
        Desk.due("again by a row that is not WHOLE", d.stemmed(3, "inginging"), "ing");
        Desk.due("none fits", d.stemmed(3, "mouse"), "mouse");
        Desk.due("PORTER knows no ROWS", d.stemmed(2, "mouse"), "mous");

        Desk first = new Desk();
        int e = first.know("e");
        first.rules.row(e, false, 8, NONE, false);
        first.rules.row(e, false, 1, NONE, false);
        first.rules.row(e, false, 2, NONE, false);
        Desk.due("a ROW that does not leave what is GOOD is passed", first.stemmed(3, "mouse"), "mous");
        Desk.due("more goes than the ENDING has", first.stemmed(3, "unspeakable"), "uns");

        Desk longer = new Desk();
        longer.rules.row(longer.know("nings"), false, 1, NONE, false);
        Desk.due("an ENDING longer than the WORD", longer.stemmed(3, "ings"), "ings");

        Desk stop = new Desk();
        int a = stop.know("a");
        stop.rules.row(a, false, 1, NONE, false);
        Desk.due("does not go on", stop.stemmed(3, "banaaa"), "banaa");
    }

    private static void huskGood() {
        Desk d = new Desk();
        d.rules.row(d.know("s"), false, 1, NONE, false);
        Desk.due("a VOWEL and 2", d.stemmed(3, "ads"), "ad");
        Desk.due("a VOWEL and 1", d.stemmed(3, "as"), "as");
        Desk.due("others and 2", d.stemmed(3, "bas"), "bas");
        Desk.due("others and 3", d.stemmed(3, "bads"), "bad");
        Desk.due("y behind the first", d.stemmed(3, "skys"), "sky");
        Desk.due("y first is no VOWEL", d.stemmed(3, "yes"), "yes");
        Desk.due("no VOWEL behind the first", d.stemmed(3, "ybds"), "ybds");
        Desk.due("the ENDING is the WORD", d.stemmed(3, "s"), "s");

        Desk grow = new Desk();
        int b = grow.know("b");
        grow.rules.row(b, false, 1, grow.know("cccc"), false);
        Desk.due("24 with what comes", grow.stemmed(3, Desk.times("a", 20) + "b"), Desk.times("a", 20) + "cccc");
        Desk.due("25 with what comes", grow.stemmed(3, Desk.times("a", 21) + "b"), Desk.times("a", 21) + "b");
        Desk.due("what comes does not make it GOOD", grow.stemmed(3, "ab"), "ab");

        Desk still = new Desk();
        int a = still.know("a");
        still.rules.row(a, true, 0, NONE, false);
        still.rules.row(a, false, 1, NONE, false);
        Desk.due("nothing goes, nothing comes, 24 stay", still.stemmed(3, Desk.times("a", 24)), Desk.times("a", 24));

        Desk done = new Desk();
        int e = done.know("e");
        done.rules.row(e, true, 0, NONE, true);
        done.rules.row(e, true, 1, NONE, true);
        Desk.due("WHOLE no more, though no letter went", done.stemmed(3, "mouse"), "mouse");
    }

    private static void huskTimes() {
        Desk d = new Desk();
        int a = d.know("a");
        d.rules.row(a, false, 0, a, true);
        Desk.due("16 times at most", d.stemmed(3, "aa"), Desk.times("a", 18));

        Desk around = new Desk();
        int e = around.know("e");
        int i = around.know("i");
        around.rules.row(e, false, 1, i, true);
        around.rules.row(i, false, 1, e, true);
        Desk.due("round and round", around.stemmed(3, "make"), "make");
    }

    private static void rowRefusals() {
        Desk d = new Desk();
        int eight = d.know("abcdefgh");
        int nine = d.know("abcdefghi");
        int four = d.know("abcd");
        int five = d.know("abcde");
        Desk.due("8, 4 letters", d.rules.row(eight, true, 8, four, true), 0);
        Desk.due("9 letters", d.rules.row(nine, true, 8, four, true), OUTSIDE);
        Desk.due("5 letters come", d.rules.row(eight, true, 8, five, true), OUTSIDE);
        Desk.due("9 go", d.rules.row(eight, true, 9, four, true), OUTSIDE);
        Desk.due("-1 go", d.rules.row(eight, true, -1, four, true), OUTSIDE);
        Desk.due("an ENDING UNKNOWN", d.rules.row(4, true, 9, four, true), UNKNOWN);
        Desk.due("no ENDING", d.rules.row(NONE, true, 1, four, true), UNKNOWN);
        Desk.due("UNKNOWN comes", d.rules.row(nine, true, 1, 4, true), UNKNOWN);
        Desk.due("-1 comes", d.rules.row(eight, true, 1, -1, true), UNKNOWN);
        Desk.due("refused ones are no ROWS", d.rules.told(2), 1);
        for (int i = 1; i < 40; i++) {
            Desk.due("row " + i, d.rules.row(eight, false, 0, NONE, false), i);
        }
        Desk.due("41 ROWS", d.rules.row(eight, false, 0, NONE, false), FULL);
        Desk.due("OUTSIDE before FULL", d.rules.row(nine, false, 0, NONE, false), OUTSIDE);
        Desk.due("told", d.rules.told(2), 40);
    }

    private static void rowless() {
        Desk d = new Desk();
        int s = d.know("s");
        d.rules.row(s, false, 1, NONE, false);
        d.rules.row(s, false, 0, NONE, false);
        Desk.due("rowless", d.rules.rowless(), 2);
        Desk.due("rowless again", d.rules.rowless(), 0);
        Desk.due("no ROW is done", d.stemmed(3, "cats"), "cats");
        Desk.due("numbers from 0 on", d.rules.row(s, false, 1, NONE, false), 0);
        Desk.due("the new ROW is done", d.stemmed(3, "cats"), "cat");
    }
}
