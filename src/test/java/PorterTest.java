/** Promises 8, 9 and STEMMER 2, PORTER: a test for each sentence, each ending at the edge of what it asks. */
public final class PorterTest {
    private static final int OUTSIDE = Desk.OUTSIDE, UNKNOWN = Desk.UNKNOWN;

    private static final String[] STEP_2 = {"ational", "ate", "tional", "tion", "enci", "ence", "anci", "ance",
        "izer", "ize", "abli", "able", "alli", "al", "entli", "ent", "eli", "e", "ousli", "ous", "ization", "ize",
        "ation", "ate", "ator", "ate", "alism", "al", "iveness", "ive", "fulness", "ful", "ousness", "ous",
        "aliti", "al", "iviti", "ive", "biliti", "ble"};
    private static final String[] STEP_3 = {"icate", "ic", "ative", "", "alize", "al", "iciti", "ic", "ical", "ic",
        "ful", "", "ness", ""};
    private static final String[] STEP_4 = {"al", "ance", "ence", "er", "ic", "able", "ible", "ant", "ement", "ment",
        "ent", "ou", "ism", "ate", "iti", "ive", "ize"};

    public static void main(String[] args) {
        wordsAndStems();
        wordsOf1And2LettersStay();
        vowelsAreV();
        yIsCOrV();
        measureCountsRows();
        measureUnknown();
        stepsByNumber();
        stepOutside();
        stepOfProtectedAndPairs();
        theLongestEndingAlone();
        step1a();
        step1bEed();
        step1bHasV();
        step1bMends();
        step1bMendsOnlyIfDone();
        step1bDoubles();
        step1bShort();
        step1c();
        step2();
        step3();
        step4();
        step4Ion();
        step5a();
        step5b();
        longWords();
        Desk.end();
    }

    private static void stems(String... wordsAndStems) {
        for (int i = 0; i < wordsAndStems.length; i += 2) {
            String got = new Desk().stemmed(2, wordsAndStems[i]);
            Desk.due("stem of " + wordsAndStems[i], got, wordsAndStems[i + 1]);
        }
    }

    private static void steps(int step, String... wordsAndForms) {
        for (int i = 0; i < wordsAndForms.length; i += 2) {
            String got = new Desk().stepped(step, wordsAndForms[i]);
            Desk.due("step " + step + " of " + wordsAndForms[i], got, wordsAndForms[i + 1]);
        }
    }

    private static void wordsAndStems() {
        Desk.says("2 PORTER");
        stems("caresses", "caress", "ponies", "poni", "cats", "cat", "agreed", "agre", "plastered", "plaster",
                "motoring", "motor", "conflated", "conflat", "troubled", "troubl", "sized", "size", "happy", "happi",
                "relational", "relat", "conditional", "condit", "rational", "ration", "digitizer", "digit",
                "vietnamization", "vietnam", "predication", "predic", "operator", "oper", "feudalism", "feudal",
                "decisiveness", "decis", "hopefulness", "hope", "callousness", "callous", "sensibiliti", "sensibl",
                "generalizations", "gener", "oscillators", "oscil", "controlling", "control", "rolling", "roll");
    }

    private static void wordsOf1And2LettersStay() {
        Desk.says("WORDS of 1 and 2 letters stay as they are.");
        stems("s", "s", "y", "y", "e", "e", "as", "as", "is", "is", "ed", "ed", "ay", "ay", "ll", "ll", "ee", "ee");
        steps(0, "s", "s", "as", "as");
        steps(2, "ay", "ay");
        Desk.says("WORDS of 1 and 2 letters stay as they are. (of 3 they do not)");
        stems("bas", "ba", "say", "sai", "ays", "ai", "ies", "i", "aed", "a");
    }

    private static void vowelsAreV() {
        Desk.says("A letter is C, if it is no VOWEL ... VOWELS are a e i o u.");
        for (char c = 'a'; c <= 'z'; c++) {
            measures("b" + c + "b", "aeiouy".indexOf(c) >= 0 ? 1 : 0);
        }
    }

    private static void yIsCOrV() {
        Desk.says("y is so only first in the WORD or behind one that is not C; others are V");
        measures("y", 0, "yy", 0, "yb", 0, "by", 0, "byb", 1, "ay", 1, "ayb", 1, "ayy", 1, "ayyb", 2, "syzygy", 2,
                "toy", 1, "toyb", 1, "yyb", 1, "ybyb", 1);
    }

    private static void measures(Object... wordsAndMeasures) {
        for (int i = 0; i < wordsAndMeasures.length; i += 2) {
            Desk d = new Desk();
            String word = (String) wordsAndMeasures[i];
            Desk.due("measure of " + word, d.measure(d.know(word)), (Integer) wordsAndMeasures[i + 1]);
        }
    }

    private static void measureCountsRows() {
        Desk.says("M of some letters: how often a row of C stands behind a row of V in them.");
        measures("a", 0, "b", 0, "tr", 0, "ee", 0, "tree", 0, "ab", 1, "trouble", 1, "oats", 1, "trees", 1, "ivy", 1,
                "eeaabbcc", 1, "troubles", 2, "private", 2, "oaten", 2, "orrery", 2,
                Desk.times("ab", 12), 12, Desk.times("ba", 12), 11, Desk.times("a", 24), 0, Desk.times("b", 24), 0);
    }

    private static void measureUnknown() {
        Desk.says("M of a WORD. UNKNOWN.");
        Desk d = new Desk().knowAll("oaten", "tree");
        Desk.due("measure(0)", d.measure(0), 2);
        Desk.due("measure(1)", d.measure(1), 0);
        Desk.due("measure(2)", d.measure(2), UNKNOWN);
        Desk.due("measure(-1)", d.measure(-1), UNKNOWN);
    }

    private static void stepsByNumber() {
        Desk.says("What PORTER has of a WORD behind a step (0: 1a, 1: 1b, 2: 1c, 3: 2, 4: 3, 5: 4, 6: 5a, 7: 5b)");
        String[] due = {"formalizatedly", "formalizatedly", "formalizatedli", "formalizatedli"};
        for (int step = 0; step < due.length; step++) {
            steps(step, "formalizatedly", due[step]);
        }
        String[] steps = {"generalization", "generalization", "generalization", "generalize", "general", "gener",
            "gener", "gener"};
        for (int step = 0; step < steps.length; step++) {
            steps(step, "generalizations", steps[step]);
        }
        steps(0, "controllings", "controlling");
        steps(1, "controllings", "controll");
        steps(6, "controllings", "controll", "activates", "activ", "ceases", "ceas");
        steps(5, "ceases", "cease");
        steps(7, "controllings", "control");
        steps(1, "enjoyed", "enjoy");
        steps(2, "enjoyed", "enjoi");
    }

    private static void stepOutside() {
        Desk.says("step: UNKNOWN; OUTSIDE.");
        Desk d = new Desk().knowAll("cats");
        Desk.due("step 0", d.step(0, 0), 3);
        Desk.due("step 7", d.step(0, 7), 3);
        Desk.due("step 8", d.step(0, 8), OUTSIDE);
        Desk.due("step -1", d.step(0, -1), OUTSIDE);
        Desk.due("UNKNOWN", d.step(1, 0), UNKNOWN);
    }

    private static void stepOfProtectedAndPairs() {
        Desk.says("PROTECTED or with a PAIR or not");
        Desk d = new Desk().knowAll("cats", "rule");
        d.mark(0, 0, true);
        d.step(0, 7);
        Desk.due("PROTECTED", d.shown(), "cat");
        d.pair(0, 1);
        d.step(0, 0);
        Desk.due("PROTECTED and with a PAIR", d.shown(), "cat");
        d.mark(0, 0, false);
        d.step(0, 7);
        Desk.due("with a PAIR", d.shown(), "cat");
    }

    private static void theLongestEndingAlone() {
        Desk.says("of the endings told the longest that the WORD has; if what stands before it, the STEM, is as told,"
                + " the ending becomes the other one (a - : none); else nothing");
        steps(0, "asses", "ass", "misss", "misss");
        steps(1, "feed", "feed");
        steps(3, "trization", "trization", "trational", "trational");
        steps(5, "element", "element", "agement", "agement");
    }

    private static void step1a() {
        Desk.says("1a sses ss, ies i, ss ss, s -.");
        steps(0, "caresses", "caress", "sses", "ss", "ponies", "poni", "ies", "i", "caress", "caress", "bss", "bss",
                "cats", "cat", "gas", "ga", "bus", "bu", "cat", "cat");
    }

    private static void step1bEed() {
        Desk.says("1b eed ee (M above 0)");
        steps(1, "feed", "feed", "eed", "eed", "breed", "breed", "agreed", "agree", "trobeed", "trobee");
    }

    private static void step1bHasV() {
        Desk.says("ed - (VV), ing - (VV); VV: the STEM has a V.");
        steps(1, "bled", "bled", "sing", "sing", "ing", "ing", "bbed", "bbed", "yed", "yed", "plastered", "plaster",
                "motoring", "motor", "aed", "a", "aing", "a", "byed", "by", "bying", "by", "yying", "yy");
    }

    private static void step1bMends() {
        Desk.says("behind these two, if it was done, the first that is so: at the end at becomes ate, bl ble, iz ize");
        steps(1, "conflated", "conflate", "troubled", "trouble", "sized", "size", "conflating", "conflate",
                "troubling", "trouble", "sizing", "size", "ated", "ate", "ably", "ably", "izing", "ize");
    }

    private static void step1bMendsOnlyIfDone() {
        Desk.says("behind these two, if it was done");
        steps(1, "habit", "habit", "that", "that", "agreed", "agree", "combats", "combat", "bling", "bling",
                "ebb", "ebb", "hop", "hop");
    }

    private static void step1bDoubles() {
        Desk.says("DD, but not of l, s, z: one letter goes; DD: it ends with two like letters that are C.");
        steps(1, "hopping", "hop", "tanned", "tan", "ebbed", "eb", "falling", "fall", "hissing", "hiss",
                "fizzed", "fizz", "agreeing", "agree", "yayyed", "yayy", "resting", "rest");
    }

    private static void step1bShort() {
        Desk.says("M is 1 and O: e comes. O: it ends with C V C, the last one no w, x, y.");
        steps(1, "filing", "file", "failing", "fail", "fixing", "fix", "rowing", "row", "playing", "play",
                "toying", "toy", "motoring", "motor", "aping", "ap", "yaping", "yape", "byping", "bype", "opening", "open");
    }

    private static void step1c() {
        Desk.says("1c: y at the end becomes i, if the STEM before it has a V.");
        steps(2, "happy", "happi", "sky", "sky", "enjoy", "enjoi", "syzygy", "syzygi", "yyy", "yyi", "bby", "bby",
                "yby", "yby", "happyb", "happyb");
    }

    private static void changes(int step, String stem, String[] endings) {
        for (int i = 0; i < endings.length; i += 2) {
            steps(step, stem + endings[i], stem + endings[i + 1]);
        }
    }

    private static void stays(int step, String stem, String[] endings, int by) {
        for (int i = 0; i < endings.length; i += by) {
            steps(step, stem + endings[i], stem + endings[i]);
        }
    }

    private static void step2() {
        Desk.says("2 (M above 0)");
        stays(3, "tr", STEP_2, 2);
        changes(3, "trob", STEP_2);
        steps(3, "bli", "bli", "logi", "logi", "trobli", "trobli");
    }

    private static void step3() {
        Desk.says("3 (M above 0)");
        stays(4, "tr", STEP_3, 2);
        changes(4, "trob", STEP_3);
    }

    private static void step4() {
        Desk.says("4 (M above 1; to -)");
        stays(5, "trob", STEP_4, 1);
        for (String ending : STEP_4) {
            steps(5, "trobag" + ending, "trobag");
        }
        Desk.says("4 (M above 1; to -) ous, which step 2 leaves");
        steps(5, "trobousli", "trobous", "trobagousli", "trobag");
    }

    private static void step4Ion() {
        Desk.says("ion (the STEM ending with s or t, too)");
        steps(5, "adoption", "adopt", "trobasion", "trobas", "trobagion", "trobagion", "option", "option",
                "trobion", "trobion", "trosion", "trosion", "ion", "ion");
    }

    private static void step5a() {
        Desk.says("5a e - (M above 1, or 1 and not O).");
        steps(6, "probate", "probat", "cease", "ceas", "rate", "rate", "tree", "tree", "agree", "agre", "able", "abl",
                "rowe", "row", "roxe", "rox", "robe", "robe", "trobage", "trobag", "the", "the");
    }

    private static void step5b() {
        Desk.says("5b: if M of the WORD is above 1 and it ends with ll, one l goes.");
        steps(7, "controll", "control", "roll", "roll", "all", "all", "aball", "abal", "trobagl", "trobagl",
                "trobabb", "trobabb");
    }

    private static void longWords() {
        Desk.says("A WORD has 1 to 24 letters");
        stems(Desk.times("a", 23) + "s", Desk.times("a", 23), Desk.times("b", 24), Desk.times("b", 24),
                Desk.times("ab", 10) + "ing", Desk.times("ab", 10), Desk.times("b", 18) + "atized",
                Desk.times("b", 18) + "atiz", Desk.times("ab", 8) + "fulness", Desk.times("ab", 8));
    }
}
