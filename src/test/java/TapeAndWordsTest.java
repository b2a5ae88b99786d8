/** Promises 1 to 6 and 21: a new object, THE TAPE, THE OUT, WORDS, told. */
public final class TapeAndWordsTest {
    public static void main(String[] args) {
        newObject();
        feed();
        cut();
        word();
        wordsFull();
        spellAndOut();
        told();
        Desk.end();
    }

    private static void newObject() {
        StemRules x = new StemRules();
        for (int what = 0; what <= 5; what++) {
            Desk.due("new told(" + what + ")", x.told(what), 0);
        }
        Desk.due("new out(-1)", x.out(-1), 0);
        Desk.due("new out(0)", x.out(0), StemRules.OUTSIDE);
        Desk.due("new spell(0)", x.spell(0), StemRules.UNKNOWN);
        Desk.due("new rowless()", x.rowless(), 0);
        Desk.due("new token(0, 0)", x.token(0, 0), StemRules.NONE);
        Desk.due("new least(2)", x.least(2), 3);
        Desk.due("STATE", StemRules.STATE, -3);
    }

    private static void feed() {
        Desk d = new Desk();
        Desk.due("feed", d.rules.feed(0x61626364, 0x65666768, 0x696a6b6c, 0x6d6e6f70, 0x71727374), 20);
        Desk.due("word of 20", d.rules.word(), 0);
        Desk.due("the bytes' order", d.spelled(0), "abcdefghijklmnopqrst");
        for (int i = 1; i <= 20; i++) {
            Desk.due("feed " + i, d.rules.feed(-1, 0x80808080, Integer.MIN_VALUE, i, 0), 20L * i);
        }
        Desk.due("feed FULL", d.rules.feed(0, 0, 0, 0, 0), StemRules.FULL);
        Desk.due("FULL changes nothing", d.rules.told(5), 400);
        Desk.due("cut to 381", d.rules.cut(381), 19);
        Desk.due("381 + 20 is FULL", d.rules.feed(0, 0, 0, 0, 0), StemRules.FULL);
        Desk.due("cut to 380", d.rules.cut(380), 1);
        Desk.due("380 + 20 has room", d.rules.feed(0, 0, 0, 0, 0), 400);
    }

    private static void cut() {
        Desk d = new Desk();
        Desk.due("cut(1) of none", d.rules.cut(1), StemRules.OUTSIDE);
        Desk.due("cut(0) of none", d.rules.cut(0), 0);
        d.rules.feed(0x61626364, 0, 0, 0, 0);
        Desk.due("cut(-1)", d.rules.cut(-1), StemRules.OUTSIDE);
        Desk.due("cut(21)", d.rules.cut(21), StemRules.OUTSIDE);
        Desk.due("refused cuts change nothing", d.rules.told(5), 20);
        Desk.due("cut(20)", d.rules.cut(20), 0);
        Desk.due("cut(3)", d.rules.cut(3), 17);
        d.rules.feed(0x78797a00, 0, 0, 0, 0);
        Desk.due("cut(6)", d.rules.cut(6), 17);
        Desk.due("word", d.rules.word(), 0);
        Desk.due("what was cut is gone", d.spelled(0), "abcxyz");
    }

    private static void word() {
        Desk d = new Desk();
        Desk.due("word of nothing", d.rules.word(), StemRules.OUTSIDE);
        Desk.due("first", d.know("house"), 0);
        Desk.due("word empties THE TAPE", d.rules.told(5), 0);
        Desk.due("second", d.know("houses"), 1);
        Desk.due("a like one", d.know("house"), 0);
        Desk.due("its beginning is another", d.know("hous"), 2);
        Desk.due("one letter", d.know("a"), 3);
        Desk.due("a to z", d.know("az"), 4);
        for (String none : new String[] {"House", "hou se", "a'b", "a`", "a{", "a\0", "\u00e9", Desk.times("a", 25)}) {
            Desk.due("word of " + none, d.know(none), StemRules.OUTSIDE);
            Desk.due("refused, THE TAPE is empty", d.rules.told(5), 0);
        }
        Desk.due("none became KNOWN", d.rules.told(0), 5);
        Desk.due("24 letters", d.know(Desk.times("a", 24)), 5);
    }

    private static void wordsFull() {
        Desk d = new Desk();
        d.fill(149);
        Desk.due("the last one", d.know("last"), 149);
        Desk.due("one more", d.know("more"), StemRules.FULL);
        Desk.due("FULL, THE TAPE is empty", d.rules.told(5), 0);
        Desk.due("FULL changes nothing", d.rules.told(0), 150);
        Desk.due("a KNOWN one has room", d.know("last"), 149);
        Desk.due("OUTSIDE before FULL", d.know("More"), StemRules.OUTSIDE);
    }

    private static void spellAndOut() {
        Desk d = new Desk();
        d.know("cat", "horses");
        Desk.due("word lays nothing", d.rules.out(-1), 0);
        Desk.due("spell(1)", d.rules.spell(1), 6);
        Desk.due("shown", d.shown(), "horses");
        Desk.due("out(0)", d.rules.out(0), 'h');
        Desk.due("out(5)", d.rules.out(5), 's');
        Desk.due("out(6)", d.rules.out(6), StemRules.OUTSIDE);
        Desk.due("out(-2)", d.rules.out(-2), StemRules.OUTSIDE);
        Desk.due("spell(2)", d.rules.spell(2), StemRules.UNKNOWN);
        Desk.due("spell(-1)", d.rules.spell(-1), StemRules.UNKNOWN);
        Desk.due("spell(NONE)", d.rules.spell(StemRules.NONE), StemRules.UNKNOWN);
        d.rules.stem(9, 0);
        d.rules.step(0, 9);
        d.rules.key(9, 0);
        d.rules.measure(0);
        Desk.due("what is refused lays nothing", d.shown(), "horses");
        Desk.due("spell(0)", d.rules.spell(0), 3);
        Desk.due("a shorter OUT", d.shown(), "cat");
        Desk.due("behind it is nothing", d.rules.out(3), StemRules.OUTSIDE);
    }

    private static void told() {
        Desk d = new Desk();
        d.know("ing", "ed", "the");
        d.rules.row(0, false, 3, StemRules.NONE, true);
        d.rules.row(1, false, 2, StemRules.NONE, true);
        d.rules.affix(true, 0, StemRules.NONE);
        d.rules.mark(1, 2, true);
        d.text(0, "the one of the many");
        d.put("rest");
        int[] due = {6, 3, 2, 1, 5, 4};
        for (int what = 0; what < due.length; what++) {
            Desk.due("told(" + what + ")", d.rules.told(what), due[what]);
        }
        Desk.due("told(6)", d.rules.told(6), StemRules.OUTSIDE);
        Desk.due("told(-1)", d.rules.told(-1), StemRules.OUTSIDE);
    }
}
