/** Promises 1 to 6, and what 'Terms' says of WORDS, THE TAPE and THE OUT: a test for each sentence. */
public final class TapeAndWordsTest {
    private static final int FULL = Desk.FULL, OUTSIDE = Desk.OUTSIDE, NONE = Desk.NONE, UNKNOWN = Desk.UNKNOWN;

    public static void main(String[] args) {
        constants();
        aWordHas1To24Letters();
        aWordHasLettersAToZ();
        upTo150AreKnown();
        likeOnesHaveOneNumber();
        aNewObject();
        feedLaysTwentyBytes();
        feedFull();
        cutKeepsTheFirst();
        cutOutside();
        wordReadsTheTape();
        wordFull();
        readingEmptiesTheTape();
        otherCallsKeepTheTape();
        outByIndex();
        outOutside();
        outIsTheLatest();
        spell();
        the512thCall();
        Desk.end();
    }

    private static void constants() {
        Desk.says("UNKNOWN = -1, OUTSIDE = -2, STATE = -3, FULL = -4, NONE = -5");
        Desk.due("UNKNOWN", StemRules.UNKNOWN, -1);
        Desk.due("OUTSIDE", StemRules.OUTSIDE, -2);
        Desk.due("STATE", StemRules.STATE, -3);
        Desk.due("FULL", StemRules.FULL, -4);
        Desk.due("NONE", StemRules.NONE, -5);
    }

    private static void aWordHas1To24Letters() {
        Desk.says("A WORD has 1 to 24 letters a to z.");
        Desk d = new Desk();
        Desk.due("no letter", d.word(), OUTSIDE);
        Desk.due("1 letter", d.know("a"), 0);
        Desk.due("24 letters", d.know(Desk.times("b", 24)), 1);
        Desk.due("25 letters", d.know(Desk.times("b", 25)), OUTSIDE);
        Desk.due("400 letters", d.know(Desk.times("b", 400)), OUTSIDE);
        Desk.due("WORDS", d.told(0), 2);
        Desk.due("all 24", d.spelled(1), Desk.times("b", 24));
    }

    private static void aWordHasLettersAToZ() {
        Desk.says("THE TAPE, letters a to z, is a WORD ... OUTSIDE: it is none");
        String[] none = {"`", "{", "A", "Z", "cAt", "c t", "c't", "cat\0", "\0cat", "\u00e1", "\u00ff", "cat1"};
        for (String text : none) {
            Desk d = new Desk();
            Desk.due("'" + text + "'", d.know(text), OUTSIDE);
            Desk.due("'" + text + "' is not KNOWN", d.told(0), 0);
        }
        Desk d = new Desk();
        Desk.due("a to x", d.know("abcdefghijklmnopqrstuvwx"), 0);
        Desk.due("y, z", d.know("yz"), 1);
    }

    private static void upTo150AreKnown() {
        Desk.says("Up to 150 of them are KNOWN, numbered from 0 on");
        Desk d = new Desk();
        for (int i = 0; i < 3; i++) {
            Desk.due("number " + i, d.know(Desk.nth(i)), i);
        }
        d.fill(149);
        Desk.due("149", d.told(0), 149);
        Desk.due("the 150th", d.know("last"), 149);
        Desk.due("150", d.told(0), 150);
        Desk.due("the 151st", d.know("more"), FULL);
        Desk.due("150 still", d.told(0), 150);
        Desk.due("the first one", d.spelled(0), Desk.nth(0));
        Desk.due("one between", d.spelled(75), Desk.nth(75));
        Desk.due("the last one", d.spelled(149), "last");
        Desk.due("none behind it", d.spell(150), UNKNOWN);
    }

    private static void likeOnesHaveOneNumber() {
        Desk.says("like ones have one number");
        Desk d = new Desk();
        d.knowAll("house", "houses", "hous", "ouse");
        Desk.due("WORDS", d.told(0), 4);
        Desk.due("the first one", d.know("house"), 0);
        Desk.due("one letter more", d.know("houses"), 1);
        Desk.due("one letter less", d.know("hous"), 2);
        Desk.due("the last one", d.know("ouse"), 3);
        Desk.due("no WORDS more", d.told(0), 4);
    }

    private static void aNewObject() {
        Desk.says("No WORDS, no rows of any sort.");
        Desk d = new Desk();
        for (int what = 0; what <= 5; what++) {
            Desk.due("told(" + what + ")", d.told(what), 0);
        }
        Desk.due("out(-1)", d.out(-1), 0);
        Desk.due("out(0)", d.out(0), OUTSIDE);
        Desk.due("spell(0)", d.spell(0), UNKNOWN);
        Desk.due("cut(0)", d.cut(0), 0);
        Desk.due("rowless()", d.rowless(), 0);
        Desk.due("token(0, 0)", d.token(0, 0), NONE);
        Desk.due("text(0)", d.text(0), 0);
        Desk.due("a WORD is no MEMBER", d.bases("cat"), "");
        for (int what = 0; what <= 2; what++) {
            Desk.due("a WORD has no mark " + what, d.mark(what, 0, false), 0);
        }
        Desk.due("a WORD has no PAIR", d.pair(0, NONE), NONE);

        Desk.says("two objects have nothing in common");
        Desk other = new Desk();
        Desk.due("told(0)", other.told(0), 0);
    }

    private static void feedLaysTwentyBytes() {
        Desk.says("Twenty bytes come behind THE TAPE, each number's highest first: how many it has.");
        Desk d = new Desk();
        Desk.due("feed", d.feed(0x61626364, 0x65666768, 0x696a6b6c, 0x6d6e6f70, 0x71727374), 20);
        Desk.due("word", d.word(), 0);
        Desk.due("the order", d.spelled(0), "abcdefghijklmnopqrst");
        Desk.due("feed", d.feed(0x78787878, 0x78787878, 0x78787878, 0x78787878, 0x78787878), 20);
        d.cut(2);
        Desk.due("behind what is there", d.feed(0x79000000, 0, 0, 0, 0), 22);
        d.cut(3);
        Desk.due("word", d.word(), 1);
        Desk.due("behind it", d.spelled(1), "xxy");

        Desk.says("Twenty bytes come behind THE TAPE (bytes above 127 in numbers below 0)");
        d.feed(0xe161ff62, 0x80630064, Integer.MIN_VALUE, -1, Integer.MAX_VALUE);
        Desk.due("TOKENS between bytes that are no letters", d.text(0), 4);
        Desk.due("place of the first", d.token(0, 1), 1);
        Desk.due("place of the last", d.token(3, 1), 7);
    }

    private static void feedFull() {
        Desk.says("THE TAPE (400 bytes at most) ... feed: FULL.");
        Desk d = new Desk();
        for (int i = 1; i <= 20; i++) {
            Desk.due("feed " + i, d.feed(0x61616161, 0, 0, 0, 0), 20 * i);
        }
        Desk.due("feed 21", d.feed(0x61616161, 0, 0, 0, 0), FULL);
        Desk.due("FULL changes nothing", d.told(5), 400);
        d.cut(399);
        Desk.due("one byte free", d.feed(0, 0, 0, 0, 0), FULL);
        d.cut(381);
        Desk.due("19 bytes free", d.feed(0, 0, 0, 0, 0), FULL);
        Desk.due("none of them came", d.told(5), 381);
        d.cut(380);
        Desk.due("20 bytes free", d.feed(0x62626262, 0, 0, 0, 0), 400);
        Desk.due("TOKENS", d.text(0), 20);
        Desk.due("the bytes that came last", d.tokenShown(19), "19 380 4 bbbb bbbb");
        Desk.due("emptied, there is room", d.feed(0, 0, 0, 0, 0), 20);
    }

    private static void cutKeepsTheFirst() {
        Desk.says("THE TAPE keeps its first n bytes: how many went.");
        Desk d = new Desk();
        d.feed(0x61626364, 0, 0, 0, 0);
        Desk.due("all stay", d.cut(20), 0);
        Desk.due("told(5)", d.told(5), 20);
        Desk.due("17 go", d.cut(3), 17);
        Desk.due("told(5)", d.told(5), 3);
        Desk.due("word", d.word(), 0);
        Desk.due("the first ones stay", d.spelled(0), "abc");
        d.put("cat");
        Desk.due("all go", d.cut(0), 3);
        Desk.due("none can go", d.cut(0), 0);
        Desk.due("none is there", d.told(5), 0);
    }

    private static void cutOutside() {
        Desk.says("cut: OUTSIDE.");
        Desk d = new Desk();
        Desk.due("1 of none", d.cut(1), OUTSIDE);
        d.put("cat");
        for (int n : new int[] {-1, 4, 20, 400, Integer.MIN_VALUE, Integer.MAX_VALUE}) {
            Desk.due("cut(" + n + ") of 3", d.cut(n), OUTSIDE);
        }
        Desk.due("nothing went", d.told(5), 3);
    }

    private static void wordReadsTheTape() {
        Desk.says("THE TAPE, letters a to z, is a WORD: its number.");
        Desk d = new Desk();
        Desk.due("first", d.know("house"), 0);
        Desk.due("second", d.know("cat"), 1);
        Desk.due("first again", d.know("house"), 0);
        Desk.due("spelled", d.spelled(1), "cat");
    }

    private static void wordFull() {
        Desk.says("word: OUTSIDE: it is none; FULL.");
        Desk d = new Desk().fill(150);
        Desk.due("a new one", d.know("cat"), FULL);
        Desk.due("a KNOWN one needs no room", d.know(Desk.nth(149)), 149);
        Desk.due("OUTSIDE before FULL", d.know("Cat"), OUTSIDE);
        Desk.due("none came", d.told(0), 150);
    }

    private static void readingEmptiesTheTape() {
        Desk.says("a call that reads THE TAPE (400 bytes at most) empties it");
        Desk d = new Desk();
        d.know("cat");
        Desk.due("word()", d.told(5), 0);
        d.know("Cat");
        Desk.due("word(), OUTSIDE", d.told(5), 0);
        d.text(0, "cat dog");
        Desk.due("text(0)", d.told(5), 0);
        d.text(4, "cat dog");
        Desk.due("text(4), OUTSIDE", d.told(5), 0);
        d.text(-1, "cat dog");
        Desk.due("text(-1), OUTSIDE", d.told(5), 0);
        d.fill(150);
        d.know("ox");
        Desk.due("word(), FULL", d.told(5), 0);
        d.text(0, "cat ox");
        Desk.due("text(0), FULL", d.told(5), 0);
        Desk.due("the next WORD begins anew", d.know("dog"), 1);
    }

    private static void otherCallsKeepTheTape() {
        Desk.says("THE TAPE stays when other calls do not read it");
        Desk d = new Desk();
        d.knowAll("cats", "s");
        d.put("rest");
        everyCallThatReadsNoTape(d);
        Desk.due("told(5)", d.told(5), 4);
        Desk.due("word", d.word(), 2);
        Desk.due("its letters", d.spelled(2), "rest");
    }

    private static void everyCallThatReadsNoTape(Desk d) {
        d.cut(9);
        d.out(0);
        d.spell(0);
        d.stem(2, 0);
        d.step(0, 7);
        d.mark(2, 0, true);
        d.pair(0, 1);
        d.row(1, false, 1, NONE, true);
        d.rowless();
        d.affix(true, 1, NONE);
        everyCallThatLaysNothing(d);
    }

    private static void everyCallThatLaysNothing(Desk d) {
        d.measure(0);
        d.base(0, 0);
        d.least(2);
        d.part(0, -1);
        d.key(9, 0);
        d.token(0, 0);
        d.told(0);
    }

    private static void outByIndex() {
        Desk.says("How many letters THE OUT has (i is -1), letter i as a byte.");
        Desk d = new Desk().knowAll("az");
        d.spell(0);
        Desk.due("out(-1)", d.out(-1), 2);
        Desk.due("out(0)", d.out(0), 97);
        Desk.due("out(1)", d.out(1), 122);
        d.key(0, 0);
        Desk.due("out(-1)", d.out(-1), 4);
        Desk.due("a figure", d.out(1), 50);
        Desk.due("a 0 behind", d.out(3), 48);
    }

    private static void outOutside() {
        Desk.says("out: OUTSIDE.");
        Desk d = new Desk();
        Desk.due("of nothing", d.out(0), OUTSIDE);
        d.knowAll("horses", "ox", Desk.times("a", 24));
        d.spell(0);
        for (int i : new int[] {-2, 6, 24, Integer.MIN_VALUE, Integer.MAX_VALUE}) {
            Desk.due("out(" + i + ") of 6", d.out(i), OUTSIDE);
        }
        d.spell(1);
        Desk.due("what stood there before is gone", d.out(2), OUTSIDE);
        d.spell(2);
        Desk.due("the last of 24", d.out(23), 'a');
        Desk.due("behind 24", d.out(24), OUTSIDE);
    }

    private static void outIsTheLatest() {
        Desk.says("THE OUT is what the latest call that tells of it laid there.");
        Desk d = new Desk().knowAll("horses", "s");
        Desk.due("word() lays nothing", d.out(-1), 0);
        d.spell(0);
        Desk.due("spell", d.shown(), "horses");
        d.stem(1, 0);
        Desk.due("stem", d.shown(), "horse");
        d.step(0, 7);
        Desk.due("step", d.shown(), "hors");
        d.key(0, 0);
        Desk.due("key 0", d.shown(), "h622");
        d.key(1, 0);
        Desk.due("key 1", d.shown(), "hars");
        d.mark(2, 1, true);
        d.pair(0, 1);
        d.row(1, false, 1, NONE, true);
        d.affix(true, 1, NONE);
        everyCallThatLaysNothing(d);
        d.rowless();
        d.text(2, "Running horses");
        Desk.due("others lay nothing", d.shown(), "hars");
    }

    private static void spell() {
        Desk.says("A WORD to OUT: how many letters. UNKNOWN.");
        Desk d = new Desk().knowAll("cat", Desk.times("z", 24), "a");
        Desk.due("3", d.spell(0), 3);
        Desk.due("24", d.spell(1), 24);
        Desk.due("its letters", d.shown(), Desk.times("z", 24));
        Desk.due("1", d.spell(2), 1);
        Desk.due("its letter", d.shown(), "a");
        Desk.due("UNKNOWN", d.spell(3), UNKNOWN);
    }

    private static void the512thCall() {
        Desk.says("An object is used for at most 512 calls after it has been made");
        Desk d = new Desk();
        while (d.calls() < 511) {
            d.feed(0x61616161, 0, 0, 0, 0);
        }
        Desk.due("the 512th", d.text(0), 20);
        Desk.due("calls", d.calls(), 512);
    }
}
