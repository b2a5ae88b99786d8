import java.util.function.ToIntFunction;

/** What 'Terms' says of refusals, for every call that has one: which, in which order, and that nothing changes. */
public final class RefusalsTest {
    private static final int UNKNOWN = Desk.UNKNOWN, OUTSIDE = Desk.OUTSIDE, FULL = Desk.FULL, NONE = Desk.NONE;

    /** WORDS of furnished(), by their numbers. */
    private static final int CATS = 0, CAT = 1, S = 2, NINE = 3, FIVE = 4, HOUSE = 5, HOUSECAT = 6, NO_WORD = 7;
    private static final int[] NUMBERS_OF_NO_WORD =
            {NO_WORD, 8, 149, 150, 151, -1, OUTSIDE, -3, FULL, -6, Integer.MIN_VALUE, Integer.MAX_VALUE};

    public static void main(String[] args) {
        unknownIsNoSuchWord();
        noneIsAWordForNoCall();
        outsideIsOutOfBounds();
        noneIsNothing();
        fullIsNoRoom();
        unknownComesFirst();
        outsideComesBeforeFullAndNone();
        Desk.end();
    }

    /** An object that has something of each sort, four bytes on THE TAPE and cats in THE OUT. */
    private static Desk furnished() {
        Desk d = new Desk().knowAll("cats", "cat", "s", "abcdefghi", "abcde", "house", "housecat");
        d.mark(0, HOUSE, true);
        d.mark(1, CAT, true);
        d.mark(2, CAT, true);
        d.mark(2, HOUSE, true);
        d.pair(NINE, FIVE);
        d.row(S, false, 1, NONE, false);
        d.affix(true, S, NONE);
        d.least(2);
        d.text(1, "cats cat house");
        d.put("rest");
        d.spell(CATS);
        return d;
    }

    /** All that calls can tell of an object; it takes much of it away, so it comes last. */
    private static String inventory(Desk d) {
        StringBuilder text = new StringBuilder(d.shown());
        for (int what = 0; what <= 5; what++) {
            text.append(' ').append(d.told(what));
        }
        for (int i = 0; i < d.told(1) && i < 3; i++) {
            text.append(" token ").append(d.tokenShown(i));
        }
        for (int word = CATS; word <= HOUSECAT; word++) {
            text.append(" word ").append(d.spelled(word));
            for (int stemmer = 1; stemmer <= 3; stemmer++) {
                text.append(' ').append(d.stem(stemmer, word));
            }
            text.append(" base ").append(d.base(word, 0)).append(" parts ").append(d.part(word, -1));
            for (int what = 0; what <= 2; what++) {
                text.append(' ').append(d.mark(what, word, false));
            }
            text.append(" pair ").append(d.pair(word, NONE));
        }
        text.append(" least ").append(d.least(3)).append(" rows ").append(d.rowless());
        return text.append(" tape ").append(d.word()).toString();
    }

    private static void refused(String call, int due, ToIntFunction<Desk> makes) {
        refused(call, due, furnished(), furnished(), makes);
    }

    /** The answer is as due, and the object is as a like one that was not called. */
    private static void refused(String call, int due, Desk called, Desk like, ToIntFunction<Desk> makes) {
        Desk.due(call, makes.applyAsInt(called), due);
        Desk.due(call + " changes nothing:", inventory(called), inventory(like));
    }

    private static void unknownIsNoSuchWord() {
        Desk.says("UNKNOWN: no such WORD");
        for (int n : NUMBERS_OF_NO_WORD) {
            unknown(n);
            Desk.due("pair(0, " + n + ")", furnished().pair(CATS, n), UNKNOWN);
            refused("row, comes " + n, UNKNOWN, d -> d.row(S, true, 1, n, true));
            refused("affix, instead " + n, UNKNOWN, d -> d.affix(true, S, n));
        }
    }

    private static void unknown(int n) {
        refused("spell " + n, UNKNOWN, d -> d.spell(n));
        refused("stem " + n, UNKNOWN, d -> d.stem(1, n));
        refused("step " + n, UNKNOWN, d -> d.step(n, 1));
        refused("measure " + n, UNKNOWN, d -> d.measure(n));
        refused("mark " + n, UNKNOWN, d -> d.mark(1, n, true));
        refused("pair " + n, UNKNOWN, d -> d.pair(n, CATS));
        refused("pair off " + n, UNKNOWN, d -> d.pair(n, NONE));
        refused("row " + n, UNKNOWN, d -> d.row(n, true, 1, S, true));
        refused("affix " + n, UNKNOWN, d -> d.affix(true, n, S));
        refused("base " + n, UNKNOWN, d -> d.base(n, 0));
        refused("part " + n, UNKNOWN, d -> d.part(n, -1));
        refused("key " + n, UNKNOWN, d -> d.key(1, n));
    }

    private static void noneIsAWordForNoCall() {
        Desk.says("UNKNOWN: no such WORD (NONE stands for nothing in three places alone)");
        unknown(NONE);
        Desk d = furnished();
        Desk.due("pair(cats, NONE)", d.pair(CATS, NONE), NONE);
        Desk.due("row, NONE comes", d.row(S, true, 1, NONE, true), 1);
        Desk.due("affix, NONE instead", d.affix(true, S, NONE), 1);
    }

    private static void outsideIsOutOfBounds() {
        Desk.says("OUTSIDE: a number is out of its bounds");
        for (int far : new int[] {Integer.MIN_VALUE, -2, -1, 13, 399, 400, 401, Integer.MAX_VALUE}) {
            if (far != -1) {
                refused("out " + far, OUTSIDE, d -> d.out(far));
            }
            refused("cut " + far, OUTSIDE, d -> d.cut(far));
            refused("stem by " + far, OUTSIDE, d -> d.stem(far, CATS));
            refused("step " + far, OUTSIDE, d -> d.step(CATS, far));
            refused("mark " + far, OUTSIDE, d -> d.mark(far, CATS, true));
            refused("row, go " + far, OUTSIDE, d -> d.row(S, true, far, S, true));
            refused("least " + far, OUTSIDE, d -> d.least(far));
            refused("key " + far, OUTSIDE, d -> d.key(far, CATS));
            refused("token, what " + far, OUTSIDE, d -> d.token(0, far));
            refused("told " + far, OUTSIDE, d -> d.told(far));
        }
        outsideByOne();
        outsideAndTheTape();
    }

    private static void outsideByOne() {
        refused("out 4", OUTSIDE, d -> d.out(4));
        refused("cut 5", OUTSIDE, d -> d.cut(5));
        refused("stem by 4", OUTSIDE, d -> d.stem(4, CATS));
        refused("step 8", OUTSIDE, d -> d.step(CATS, 8));
        refused("mark 3", OUTSIDE, d -> d.mark(3, CATS, true));
        refused("row, 9 letters", OUTSIDE, d -> d.row(NINE, true, 1, S, true));
        refused("row, 5 letters come", OUTSIDE, d -> d.row(S, true, 1, FIVE, true));
        refused("row, 9 go", OUTSIDE, d -> d.row(S, true, 9, S, true));
        refused("affix, 9 letters", OUTSIDE, d -> d.affix(true, NINE, S));
        refused("affix, 9 letters instead", OUTSIDE, d -> d.affix(false, S, NINE));
        refused("least 1", OUTSIDE, d -> d.least(1));
        refused("key 2", OUTSIDE, d -> d.key(2, CATS));
        refused("token, what 5", OUTSIDE, d -> d.token(0, 5));
        refused("told 6", OUTSIDE, d -> d.told(6));
    }

    private static void outsideAndTheTape() {
        Desk.says("What is refused changes nothing; but a call that reads THE TAPE empties it");
        for (int far : new int[] {Integer.MIN_VALUE, -1, 4, Integer.MAX_VALUE}) {
            refused("text " + far, OUTSIDE, furnished(), tapeless(furnished()), d -> d.text(far));
        }
        refused("word", OUTSIDE, furnished().put("!"), tapeless(furnished()), Desk::word);
    }

    private static Desk tapeless(Desk d) {
        d.cut(0);
        return d;
    }

    private static void noneIsNothing() {
        Desk.says("NONE: there is nothing");
        for (int far : new int[] {Integer.MIN_VALUE, -2, -1, 2, 60, Integer.MAX_VALUE}) {
            refused("token " + far, NONE, d -> d.token(far, 0));
            refused("base " + far, NONE, d -> d.base(CATS, far));
            if (far != -1) {
                refused("part " + far, NONE, d -> d.part(HOUSECAT, far));
            }
        }
        refused("base 1 of one", NONE, d -> d.base(CATS, 1));
        refused("base 0 of none", NONE, d -> d.base(FIVE, 0));
        refused("part 0 of none", NONE, d -> d.part(CATS, 0));
    }

    private static void fullIsNoRoom() {
        Desk.says("FULL: there is no room ... What is refused changes nothing");
        refused("row 41", FULL, withRows(furnished()), withRows(furnished()), d -> d.row(CAT, true, 1, S, true));
        refused("affix 21", FULL, withAffixes(furnished()), withAffixes(furnished()), d -> d.affix(true, CAT, S));
        refused("feed 21", FULL, withTape(furnished()), withTape(furnished()), d -> d.feed(1, 2, 3, 4, 5));
        refused("word 151", FULL, withWords().put("new"), withWords(), Desk::word);
        refused("text, a WORD too many", FULL, withWords().put("cat new"), withWords(), d -> d.text(0));
    }

    private static Desk withRows(Desk d) {
        for (int i = 1; i < 40; i++) {
            d.row(S, true, 0, NONE, true);
        }
        return d;
    }

    private static Desk withAffixes(Desk d) {
        for (int i = 1; i < 20; i++) {
            d.affix(false, S, NONE);
        }
        return d;
    }

    private static Desk withTape(Desk d) {
        for (int i = 0; i < 19; i++) {
            d.feed(0, 0, 0, 0, 0);
        }
        return d;
    }

    /** Furnished, with 150 WORDS, and nothing on THE TAPE. */
    private static Desk withWords() {
        Desk d = tapeless(furnished()).fill(150);
        d.text(1, "cats cat house");
        return d;
    }

    private static void unknownComesFirst() {
        Desk.says("of several the first that a comment names (UNKNOWN before OUTSIDE, FULL, NONE)");
        refused("stem", UNKNOWN, d -> d.stem(4, NO_WORD));
        refused("step", UNKNOWN, d -> d.step(NO_WORD, 8));
        refused("mark", UNKNOWN, d -> d.mark(3, NO_WORD, true));
        refused("key", UNKNOWN, d -> d.key(2, NO_WORD));
        refused("base", UNKNOWN, d -> d.base(NO_WORD, 99));
        refused("part", UNKNOWN, d -> d.part(NO_WORD, 99));
        refused("row, 9 go", UNKNOWN, d -> d.row(NO_WORD, true, 9, S, true));
        refused("row, UNKNOWN ENDING, 5 letters come", UNKNOWN, d -> d.row(NO_WORD, true, 1, FIVE, true));
        refused("row, 9 letters, UNKNOWN comes", UNKNOWN, d -> d.row(NINE, true, 1, NO_WORD, true));
        refused("affix, 9 letters instead", UNKNOWN, d -> d.affix(true, NO_WORD, NINE));
        refused("affix, 9 letters, UNKNOWN instead", UNKNOWN, d -> d.affix(true, NINE, NO_WORD));
        Desk.due("row, FULL", withRows(furnished()).row(NO_WORD, true, 1, S, true), UNKNOWN);
        Desk.due("affix, FULL", withAffixes(furnished()).affix(true, S, NO_WORD), UNKNOWN);
    }

    private static void outsideComesBeforeFullAndNone() {
        Desk.says("of several the first that a comment names (OUTSIDE before FULL, NONE)");
        Desk.due("row, 9 letters", withRows(furnished()).row(NINE, true, 1, S, true), OUTSIDE);
        Desk.due("row, 9 go", withRows(furnished()).row(S, true, 9, S, true), OUTSIDE);
        Desk.due("row, 5 letters come", withRows(furnished()).row(S, true, 1, FIVE, true), OUTSIDE);
        Desk.due("affix, 9 letters", withAffixes(furnished()).affix(true, NINE, S), OUTSIDE);
        Desk.due("word", withWords().know("New"), OUTSIDE);
        Desk.due("text", withWords().text(4, "new"), OUTSIDE);
        Desk.due("token", furnished().token(2, 5), OUTSIDE);
        Desk.due("token", furnished().token(-1, -1), OUTSIDE);
    }
}
