/**
 * Stems and forms of words, by published steps and by rows that are told.
 * The document that numbers its promises is shared/DOC.md.
 */
public final class StemRules {
    public static final int UNKNOWN = -1, OUTSIDE = -2, STATE = -3, FULL = -4, NONE = -5;

    private static final int LETTERS_MOST = 24;
    private static final int WORDS_MOST = 150;
    private static final int TAPE_MOST = 400;
    private static final int ROWS_MOST = 40;
    private static final int ROW_TIMES_MOST = 16;
    private static final int AFFIXES_MOST = 20;
    private static final int TOKENS_MOST = 60;

    private static final int ENDING_MOST = 8, GO_MOST = 8, COME_MOST = 4, AFFIX_MOST = 8;
    private static final int LEAST_LOWEST = 2, LEAST_HIGHEST = 12, LEAST_AT_FIRST = 3;

    private static final int PROTECTED = 0, LEFT_OUT = 1, MEMBER = 2, MARKS = 3;
    private static final int AS_IT_IS = 0, PLURALS = 1, PORTER = 2, HUSK = 3;
    private static final int BY_FIGURES = 0, BY_SOUNDS = 1;

    private static final int STEP_1A = 0, STEP_1B = 1, STEP_1C = 2, STEP_2 = 3;
    private static final int STEP_3 = 4, STEP_4 = 5, STEP_5A = 6, STEP_5B = 7;

    /** What the STEM before one of Porter's endings must be. */
    private static final int ANY = 0, M_ABOVE_0 = 1, M_ABOVE_1 = 2, HAS_V = 3;
    private static final int M_ABOVE_1_BEHIND_S_T = 4, M_ABOVE_1_OR_NO_O = 5;

    /** What a place without a letter answers, so that no index needs to be refused. */
    private static final char NO_LETTER = 0;

    private final Tape tape = new Tape();
    private final Words words = new Words();
    private final Letters shown = new Letters();
    private final Letters work = new Letters();
    private final Husk husk = new Husk();
    private final Bases bases = new Bases();
    private final Parts parts = new Parts();
    private final Cutter cutter = new Cutter();
    private final Tokens tokens = new Tokens();

    public StemRules() {
    }

    public int feed(int a, int b, int c, int d, int e) {
        if (!tape.hasRoomForFive()) {
            return FULL;
        }
        tape.addNumber(a);
        tape.addNumber(b);
        tape.addNumber(c);
        tape.addNumber(d);
        tape.addNumber(e);
        return tape.size();
    }

    public int cut(int n) {
        int before = tape.size();
        if (n < 0 || n > before) {
            return OUTSIDE;
        }
        tape.keep(n);
        return before - n;
    }

    public int out(int i) {
        if (i == -1) {
            return shown.size();
        }
        return i >= 0 && i < shown.size() ? shown.at(i) : OUTSIDE;
    }

    public int word() {
        boolean isWord = tape.copyAsWord(work);
        tape.keep(0);
        return isWord ? words.learn(work) : OUTSIDE;
    }

    public int spell(int word) {
        if (!words.knows(word)) {
            return UNKNOWN;
        }
        words.copyTo(word, shown);
        return shown.size();
    }

    public int stem(int stemmer, int word) {
        if (!words.knows(word)) {
            return UNKNOWN;
        }
        if (!isStemmer(stemmer)) {
            return OUTSIDE;
        }
        layStem(stemmer, word, shown);
        return shown.size();
    }

    public int step(int word, int step) {
        if (!words.knows(word)) {
            return UNKNOWN;
        }
        if (step < STEP_1A || step > STEP_5B) {
            return OUTSIDE;
        }
        words.copyTo(word, shown);
        Porter.run(shown, step);
        return shown.size();
    }

    public int measure(int word) {
        if (!words.knows(word)) {
            return UNKNOWN;
        }
        words.copyTo(word, work);
        return Porter.measureOf(Porter.consonantsOf(work), work.size());
    }

    public int mark(int what, int word, boolean is) {
        if (!words.knows(word)) {
            return UNKNOWN;
        }
        if (what < 0 || what >= MARKS) {
            return OUTSIDE;
        }
        if (words.isMarked(what, word) == is) {
            return 0;
        }
        words.setMark(what, word, is);
        return 1;
    }

    public int pair(int word, int stem) {
        if (!words.knows(word) || !words.knowsOrNone(stem)) {
            return UNKNOWN;
        }
        int before = words.pairOf(word);
        words.setPair(word, stem);
        return before;
    }

    public int row(int ending, boolean whole, int go, int come, boolean on) {
        if (!words.knows(ending) || !words.knowsOrNone(come)) {
            return UNKNOWN;
        }
        if (words.sizeOf(ending) > ENDING_MOST || words.sizeOf(come) > COME_MOST || go < 0 || go > GO_MOST) {
            return OUTSIDE;
        }
        return husk.addRow(ending, whole, go, come, on);
    }

    public int rowless() {
        int before = husk.count();
        husk.dropRows();
        return before;
    }

    public int affix(boolean behind, int has, int instead) {
        if (!words.knows(has) || !words.knowsOrNone(instead)) {
            return UNKNOWN;
        }
        if (words.sizeOf(has) > AFFIX_MOST || words.sizeOf(instead) > AFFIX_MOST) {
            return OUTSIDE;
        }
        return bases.addAffix(behind, has, instead);
    }

    public int base(int word, int k) {
        if (!words.knows(word)) {
            return UNKNOWN;
        }
        bases.collect(word, words, work);
        return bases.found(k);
    }

    public int least(int n) {
        if (n < LEAST_LOWEST || n > LEAST_HIGHEST) {
            return OUTSIDE;
        }
        return parts.setLeast(n);
    }

    public int part(int word, int k) {
        if (!words.knows(word)) {
            return UNKNOWN;
        }
        words.copyTo(word, work);
        parts.lay(work, words);
        return k == -1 ? parts.count() : parts.numberOf(k);
    }

    public int key(int which, int word) {
        if (!words.knows(word)) {
            return UNKNOWN;
        }
        if (which != BY_FIGURES && which != BY_SOUNDS) {
            return OUTSIDE;
        }
        words.copyTo(word, work);
        if (which == BY_FIGURES) {
            Keys.layFigures(work, shown);
        } else {
            Keys.laySounds(work, shown);
        }
        return shown.size();
    }

    public int text(int stemmer) {
        if (!isStemmer(stemmer)) {
            tape.keep(0);
            return OUTSIDE;
        }
        int known = words.count();
        boolean room = true;
        cutter.begin();
        tokens.begin();
        for (int i = 0; i < TAPE_MOST && room && tokens.haveRoom() && cutter.findPiece(tape); i++) {
            room = takePiece(stemmer);
        }
        tape.keep(0);
        if (!room) {
            words.forgetFrom(known);
            return FULL;
        }
        tokens.keep();
        return tokens.count();
    }

    public int token(int i, int what) {
        if (what < 0 || what >= Tokens.FIELDS) {
            return OUTSIDE;
        }
        return tokens.get(i, what);
    }

    public int told(int what) {
        switch (what) {
            case 0: return words.count();
            case 1: return tokens.count();
            case 2: return husk.count();
            case 3: return bases.count();
            case 4: return tokens.positions();
            case 5: return tape.size();
            default: return OUTSIDE;
        }
    }

    private static boolean isStemmer(int stemmer) {
        return stemmer >= AS_IT_IS && stemmer <= HUSK;
    }

    private void layStem(int stemmer, int number, Letters into) {
        words.copyTo(number, into);
        if (stemmer == AS_IT_IS || words.isMarked(PROTECTED, number)) {
            return;
        }
        int own = words.pairOf(number);
        if (own != NONE) {
            words.copyTo(own, into);
        } else if (stemmer == PLURALS) {
            dropPlural(into);
        } else if (stemmer == PORTER) {
            Porter.run(into, STEP_5B);
        } else {
            husk.run(into, words);
        }
    }

    private static void dropPlural(Letters w) {
        if (w.size() == 1) {
            return;
        }
        if (w.ends("ies") && !w.ends("eies") && !w.ends("aies")) {
            w.changeEnd("ies", "y");
        } else if (w.ends("es") && !w.ends("aes") && !w.ends("ees") && !w.ends("oes")) {
            w.changeEnd("es", "e");
        } else if (w.ends("s") && !w.ends("us") && !w.ends("ss")) {
            w.changeEnd("s", "");
        }
    }

    /** False if there is no room; then text() takes back what became KNOWN. */
    private boolean takePiece(int stemmer) {
        int position = tokens.nextPosition();
        int number = words.learn(cutter.piece());
        if (number == FULL) {
            return false;
        }
        if (words.isMarked(LEFT_OUT, number)) {
            return true;
        }
        layStem(stemmer, number, work);
        int stemNumber = words.learn(work);
        if (stemNumber == FULL) {
            return false;
        }
        tokens.add(position, cutter.place(), cutter.bytes(), number, stemNumber);
        return true;
    }

    private static boolean isVowel(char c) {
        return c == 'a' || c == 'e' || c == 'i' || c == 'o' || c == 'u';
    }

    /** Letters that can be changed in place; no index and no length can leave them. */
    private static final class Letters {
        private final char[] letters = new char[LETTERS_MOST];
        private int size;

        int size() {
            return size;
        }

        char at(int i) {
            return i >= 0 && i < size ? letters[i] : NO_LETTER;
        }

        void put(int i, char c) {
            if (i >= 0 && i < size) {
                letters[i] = c;
            }
        }

        void add(char c) {
            if (size < LETTERS_MOST) {
                letters[size] = c;
                size++;
            }
        }

        void shorten(int n) {
            if (n >= 0 && n < size) {
                size = n;
            }
        }

        boolean hasAt(int from, String s) {
            if (from < 0 || from + s.length() > size) {
                return false;
            }
            for (int i = 0; i < s.length(); i++) {
                if (letters[from + i] != s.charAt(i)) {
                    return false;
                }
            }
            return true;
        }

        boolean ends(String s) {
            return hasAt(size - s.length(), s);
        }

        /** For changes that keep the length: what stands behind must not move. */
        boolean changeAt(int from, String has, String becomes) {
            if (!hasAt(from, has)) {
                return false;
            }
            for (int i = 0; i < becomes.length(); i++) {
                put(from + i, becomes.charAt(i));
            }
            return true;
        }

        boolean changeEnd(String has, String becomes) {
            if (!ends(has)) {
                return false;
            }
            shorten(size - has.length());
            for (int i = 0; i < becomes.length(); i++) {
                add(becomes.charAt(i));
            }
            return true;
        }
    }

    private static final class Tape {
        private final char[] bytes = new char[TAPE_MOST];
        private int size;

        int size() {
            return size;
        }

        boolean hasRoomForFive() {
            return size + 20 <= TAPE_MOST;
        }

        void addNumber(int number) {
            for (int shift = 24; shift >= 0; shift -= 8) {
                if (size < TAPE_MOST) {
                    bytes[size] = (char) ((number >>> shift) & 255);
                    size++;
                }
            }
        }

        void keep(int n) {
            if (n >= 0 && n < size) {
                size = n;
            }
        }

        char byteAt(int i) {
            return i >= 0 && i < size ? bytes[i] : NO_LETTER;
        }

        /** The letter of a TEXT at that byte, a to z, or NO_LETTER. */
        char letterAt(int i) {
            char c = byteAt(i);
            if (c >= 'A' && c <= 'Z') {
                return (char) (c - 'A' + 'a');
            }
            return c >= 'a' && c <= 'z' ? c : NO_LETTER;
        }

        /** Whether a ' stands there that belongs to a WORD of a TEXT. */
        boolean joinsAt(int i) {
            return byteAt(i) == '\'' && letterAt(i - 1) != NO_LETTER && letterAt(i + 1) != NO_LETTER;
        }

        boolean copyAsWord(Letters into) {
            into.shorten(0);
            if (size < 1 || size > LETTERS_MOST) {
                return false;
            }
            for (int i = 0; i < size; i++) {
                char c = bytes[i];
                if (c < 'a' || c > 'z') {
                    return false;
                }
                into.add(c);
            }
            return true;
        }
    }

    /** The KNOWN WORDS; a number that is none has no letters and no marks. */
    private static final class Words {
        private final char[] letters = new char[WORDS_MOST * LETTERS_MOST];
        private final int[] sizes = new int[WORDS_MOST];
        private final int[] pairs = new int[WORDS_MOST];
        private final boolean[] marks = new boolean[WORDS_MOST * MARKS];
        private int count;

        int count() {
            return count;
        }

        boolean knows(int number) {
            return number >= 0 && number < count;
        }

        boolean knowsOrNone(int number) {
            return number == NONE || knows(number);
        }

        int sizeOf(int number) {
            return knows(number) ? sizes[number] : 0;
        }

        void copyTo(int number, Letters into) {
            into.shorten(0);
            addTo(number, 0, into);
        }

        /** Adds the letters of a WORD behind its first few. */
        void addTo(int number, int first, Letters into) {
            if (!knows(number) || first < 0) {
                return;
            }
            for (int i = first; i < sizes[number]; i++) {
                into.add(letters[number * LETTERS_MOST + i]);
            }
        }

        boolean standsAt(int number, Letters in, int from) {
            if (!knows(number) || from < 0 || from + sizes[number] > in.size()) {
                return false;
            }
            for (int i = 0; i < sizes[number]; i++) {
                if (letters[number * LETTERS_MOST + i] != in.at(from + i)) {
                    return false;
                }
            }
            return true;
        }

        boolean standsBehind(int number, Letters in) {
            return standsAt(number, in, in.size() - sizeOf(number));
        }

        int find(Letters w) {
            for (int number = 0; number < count; number++) {
                if (sizes[number] == w.size() && standsAt(number, w, 0)) {
                    return number;
                }
            }
            return NONE;
        }

        int learn(Letters w) {
            int number = find(w);
            if (number != NONE) {
                return number;
            }
            if (count >= WORDS_MOST) {
                return FULL;
            }
            number = count;
            count++;
            sizes[number] = w.size();
            for (int i = 0; i < w.size(); i++) {
                letters[number * LETTERS_MOST + i] = w.at(i);
            }
            pairs[number] = NONE;
            return number;
        }

        /** Only for WORDS that nothing names yet: they have no marks and are nobody's PAIR. */
        void forgetFrom(int first) {
            if (first >= 0 && first < count) {
                count = first;
            }
        }

        boolean isMarked(int what, int number) {
            return what >= 0 && what < MARKS && knows(number) && marks[number * MARKS + what];
        }

        void setMark(int what, int number, boolean is) {
            if (what >= 0 && what < MARKS && knows(number)) {
                marks[number * MARKS + what] = is;
            }
        }

        int pairOf(int number) {
            return knows(number) ? pairs[number] : NONE;
        }

        void setPair(int number, int stemNumber) {
            if (knows(number)) {
                pairs[number] = stemNumber;
            }
        }
    }

    /** The endings of Porter's steps: what the STEM must be, what becomes what. */
    private enum Ending {
        SSES(STEP_1A, ANY, "sses", "ss"), IES(STEP_1A, ANY, "ies", "i"),
        SS(STEP_1A, ANY, "ss", "ss"), S(STEP_1A, ANY, "s", ""),

        EED(STEP_1B, M_ABOVE_0, "eed", "ee"), ED(STEP_1B, HAS_V, "ed", ""), ING(STEP_1B, HAS_V, "ing", ""),

        ATIONAL(STEP_2, M_ABOVE_0, "ational", "ate"), TIONAL(STEP_2, M_ABOVE_0, "tional", "tion"),
        ENCI(STEP_2, M_ABOVE_0, "enci", "ence"), ANCI(STEP_2, M_ABOVE_0, "anci", "ance"),
        IZER(STEP_2, M_ABOVE_0, "izer", "ize"), ABLI(STEP_2, M_ABOVE_0, "abli", "able"),
        ALLI(STEP_2, M_ABOVE_0, "alli", "al"), ENTLI(STEP_2, M_ABOVE_0, "entli", "ent"),
        ELI(STEP_2, M_ABOVE_0, "eli", "e"), OUSLI(STEP_2, M_ABOVE_0, "ousli", "ous"),
        IZATION(STEP_2, M_ABOVE_0, "ization", "ize"), ATION(STEP_2, M_ABOVE_0, "ation", "ate"),
        ATOR(STEP_2, M_ABOVE_0, "ator", "ate"), ALISM(STEP_2, M_ABOVE_0, "alism", "al"),
        IVENESS(STEP_2, M_ABOVE_0, "iveness", "ive"), FULNESS(STEP_2, M_ABOVE_0, "fulness", "ful"),
        OUSNESS(STEP_2, M_ABOVE_0, "ousness", "ous"), ALITI(STEP_2, M_ABOVE_0, "aliti", "al"),
        IVITI(STEP_2, M_ABOVE_0, "iviti", "ive"), BILITI(STEP_2, M_ABOVE_0, "biliti", "ble"),

        ICATE(STEP_3, M_ABOVE_0, "icate", "ic"), ATIVE(STEP_3, M_ABOVE_0, "ative", ""),
        ALIZE(STEP_3, M_ABOVE_0, "alize", "al"), ICITI(STEP_3, M_ABOVE_0, "iciti", "ic"),
        ICAL(STEP_3, M_ABOVE_0, "ical", "ic"), FUL(STEP_3, M_ABOVE_0, "ful", ""),
        NESS(STEP_3, M_ABOVE_0, "ness", ""),

        AL(STEP_4, M_ABOVE_1, "al", ""), ANCE(STEP_4, M_ABOVE_1, "ance", ""),
        ENCE(STEP_4, M_ABOVE_1, "ence", ""), ER(STEP_4, M_ABOVE_1, "er", ""),
        IC(STEP_4, M_ABOVE_1, "ic", ""), ABLE(STEP_4, M_ABOVE_1, "able", ""),
        IBLE(STEP_4, M_ABOVE_1, "ible", ""), ANT(STEP_4, M_ABOVE_1, "ant", ""),
        EMENT(STEP_4, M_ABOVE_1, "ement", ""), MENT(STEP_4, M_ABOVE_1, "ment", ""),
        ENT(STEP_4, M_ABOVE_1, "ent", ""), ION(STEP_4, M_ABOVE_1_BEHIND_S_T, "ion", ""),
        OU(STEP_4, M_ABOVE_1, "ou", ""), ISM(STEP_4, M_ABOVE_1, "ism", ""),
        ATE(STEP_4, M_ABOVE_1, "ate", ""), ITI(STEP_4, M_ABOVE_1, "iti", ""),
        OUS(STEP_4, M_ABOVE_1, "ous", ""), IVE(STEP_4, M_ABOVE_1, "ive", ""),
        IZE(STEP_4, M_ABOVE_1, "ize", ""),

        E(STEP_5A, M_ABOVE_1_OR_NO_O, "e", "");

        private final int stage;
        private final int need;
        private final String has;
        private final String becomes;

        Ending(int stage, int need, String has, String becomes) {
            this.stage = stage;
            this.need = need;
            this.has = has;
            this.becomes = becomes;
        }
    }

    /**
     * Porter's steps. Which letters are C is kept as bits: a letter's bit depends
     * on what stands before it alone, so the bits of a WORD serve for each STEM of it.
     */
    private static final class Porter {
        private static final Ending[] ENDINGS = Ending.values();

        static void run(Letters w, int last) {
            if (w.size() <= 2) {
                return;
            }
            for (int stage = STEP_1A; stage <= last && stage <= STEP_5B; stage++) {
                int consonants = consonantsOf(w);
                if (stage == STEP_1C) {
                    changeY(w, consonants);
                } else if (stage == STEP_5B) {
                    dropL(w, consonants);
                } else {
                    Ending done = changeEnding(w, stage, consonants);
                    if (done == Ending.ED || done == Ending.ING) {
                        mend(w, consonants);
                    }
                }
            }
        }

        static int consonantsOf(Letters w) {
            int bits = 0;
            boolean behindC = false;
            for (int i = 0; i < w.size() && i < LETTERS_MOST; i++) {
                char c = w.at(i);
                behindC = c == 'y' ? !behindC : !isVowel(c);
                if (behindC) {
                    bits |= 1 << i;
                }
            }
            return bits;
        }

        /** M of the first n letters: how many C stand right behind a V. */
        static int measureOf(int consonants, int n) {
            return Integer.bitCount(consonants & (~consonants << 1) & lowest(n));
        }

        private static int lowest(int n) {
            return n > 0 && n <= LETTERS_MOST ? (1 << n) - 1 : 0;
        }

        private static boolean hasV(int consonants, int n) {
            return (~consonants & lowest(n)) != 0;
        }

        private static boolean endsDouble(Letters w, int consonants, int n) {
            return n >= 2 && w.at(n - 1) == w.at(n - 2) && (consonants >>> (n - 2) & 3) == 3;
        }

        /** O: the last three are C V C, as bits from the last one on 1 0 1. */
        private static boolean endsShort(Letters w, int consonants, int n) {
            if (n < 3 || (consonants >>> (n - 3) & 7) != 5) {
                return false;
            }
            char c = w.at(n - 1);
            return c != 'w' && c != 'x' && c != 'y';
        }

        /** The ending that was changed, or null: none of them, or its STEM is not as told. */
        private static Ending changeEnding(Letters w, int stage, int consonants) {
            Ending longest = null;
            for (int i = 0; i < ENDINGS.length; i++) {
                Ending ending = ENDINGS[i];
                if (ending.stage == stage && w.ends(ending.has)
                        && (longest == null || ending.has.length() > longest.has.length())) {
                    longest = ending;
                }
            }
            if (longest == null || !holds(longest.need, w, w.size() - longest.has.length(), consonants)) {
                return null;
            }
            w.changeEnd(longest.has, longest.becomes);
            return longest;
        }

        private static boolean holds(int need, Letters w, int n, int consonants) {
            int m = measureOf(consonants, n);
            switch (need) {
                case M_ABOVE_0: return m > 0;
                case M_ABOVE_1: return m > 1;
                case HAS_V: return hasV(consonants, n);
                case M_ABOVE_1_BEHIND_S_T: return m > 1 && (w.at(n - 1) == 's' || w.at(n - 1) == 't');
                case M_ABOVE_1_OR_NO_O: return m > 1 || m == 1 && !endsShort(w, consonants, n);
                default: return true;
            }
        }

        private static void mend(Letters w, int consonants) {
            int n = w.size();
            if (w.changeEnd("at", "ate") || w.changeEnd("bl", "ble") || w.changeEnd("iz", "ize")) {
                return;
            }
            char c = w.at(n - 1);
            if (endsDouble(w, consonants, n) && c != 'l' && c != 's' && c != 'z') {
                w.shorten(n - 1);
            } else if (measureOf(consonants, n) == 1 && endsShort(w, consonants, n)) {
                w.add('e');
            }
        }

        private static void changeY(Letters w, int consonants) {
            int n = w.size() - 1;
            if (w.at(n) == 'y' && hasV(consonants, n)) {
                w.put(n, 'i');
            }
        }

        private static void dropL(Letters w, int consonants) {
            if (w.ends("ll") && measureOf(consonants, w.size()) > 1) {
                w.shorten(w.size() - 1);
            }
        }
    }

    private static final class Husk {
        private final int[] endings = new int[ROWS_MOST];
        private final boolean[] wholes = new boolean[ROWS_MOST];
        private final int[] goes = new int[ROWS_MOST];
        private final int[] comes = new int[ROWS_MOST];
        private final boolean[] ons = new boolean[ROWS_MOST];
        private int count;

        int count() {
            return count;
        }

        void dropRows() {
            count = 0;
        }

        int addRow(int ending, boolean whole, int go, int come, boolean on) {
            if (count >= ROWS_MOST) {
                return FULL;
            }
            endings[count] = ending;
            wholes[count] = whole;
            goes[count] = go;
            comes[count] = come;
            ons[count] = on;
            count++;
            return count - 1;
        }

        void run(Letters w, Words words) {
            for (int times = 0; times < ROW_TIMES_MOST; times++) {
                int r = findRow(w, times == 0, words);
                if (r < 0 || r >= count) {
                    return;
                }
                w.shorten(w.size() - goes[r]);
                words.addTo(comes[r], 0, w);
                if (!ons[r]) {
                    return;
                }
            }
        }

        private int findRow(Letters w, boolean whole, Words words) {
            for (int r = 0; r < count; r++) {
                if ((whole || !wholes[r]) && words.standsBehind(endings[r], w)
                        && isGood(w, w.size() - goes[r], words.sizeOf(comes[r]))) {
                    return r;
                }
            }
            return NONE;
        }

        private static boolean isGood(Letters w, int left, int coming) {
            if (left < 2 || left + coming > LETTERS_MOST) {
                return false;
            }
            if (isVowel(w.at(0))) {
                return true;
            }
            for (int i = 1; i < left; i++) {
                if (left >= 3 && (isVowel(w.at(i)) || w.at(i) == 'y')) {
                    return true;
                }
            }
            return false;
        }
    }

    private static final class Bases {
        private final boolean[] behinds = new boolean[AFFIXES_MOST];
        private final int[] forms = new int[AFFIXES_MOST];
        private final int[] insteads = new int[AFFIXES_MOST];
        private int count;
        private final int[] found = new int[AFFIXES_MOST + 1];
        private int foundCount;

        int count() {
            return count;
        }

        int addAffix(boolean behind, int form, int instead) {
            if (count >= AFFIXES_MOST) {
                return FULL;
            }
            behinds[count] = behind;
            forms[count] = form;
            insteads[count] = instead;
            count++;
            return count - 1;
        }

        void collect(int number, Words words, Letters work) {
            foundCount = 0;
            note(number, words);
            for (int a = 0; a < count; a++) {
                if (change(a, number, words, work)) {
                    note(words.find(work), words);
                }
            }
        }

        int found(int k) {
            return k >= 0 && k < foundCount ? found[k] : NONE;
        }

        private void note(int number, Words words) {
            if (!words.isMarked(MEMBER, number)) {
                return;
            }
            for (int i = 0; i < foundCount; i++) {
                if (found[i] == number) {
                    return;
                }
            }
            if (foundCount < found.length) {
                found[foundCount] = number;
                foundCount++;
            }
        }

        /** Whether the WORD has the AFFIX and its change is no longer than a WORD may be. */
        private boolean change(int a, int number, Words words, Letters work) {
            if (a < 0 || a >= count) {
                return false;
            }
            words.copyTo(number, work);
            int stays = work.size() - words.sizeOf(forms[a]);
            if (stays < 1 || stays + words.sizeOf(insteads[a]) > LETTERS_MOST) {
                return false;
            }
            if (!words.standsAt(forms[a], work, behinds[a] ? stays : 0)) {
                return false;
            }
            if (behinds[a]) {
                work.shorten(stays);
                words.addTo(insteads[a], 0, work);
            } else {
                words.copyTo(insteads[a], work);
                words.addTo(number, words.sizeOf(forms[a]), work);
            }
            return true;
        }
    }

    /**
     * The PARTS of one WORD, laid from its end: for each place the fewest PARTS that
     * reach the end, and the longest first one of those, so that the way from place 0
     * on is the one that the document asks for.
     */
    private static final class Parts {
        private int leastLetters = LEAST_AT_FIRST;
        private final int[] counts = new int[LETTERS_MOST + 1];
        private final int[] firsts = new int[LETTERS_MOST + 1];
        private final int[] nexts = new int[LETTERS_MOST + 1];

        int setLeast(int n) {
            int before = leastLetters;
            leastLetters = n;
            return before;
        }

        void lay(Letters w, Words words) {
            for (int from = LETTERS_MOST; from >= 0; from--) {
                counts[from] = 0;
                firsts[from] = NONE;
                nexts[from] = 0;
                for (int number = 0; number < words.count(); number++) {
                    if (mayStand(number, w, from, words)) {
                        noteFirst(number, from, from + words.sizeOf(number), w.size());
                    }
                }
            }
        }

        int count() {
            return counts[0];
        }

        int numberOf(int k) {
            if (k < 0 || k >= counts[0]) {
                return NONE;
            }
            int from = 0;
            for (int i = 0; i < k && from <= LETTERS_MOST; i++) {
                from = nexts[from];
            }
            return from <= LETTERS_MOST ? firsts[from] : NONE;
        }

        /** Shorter than the WORD, for one MEMBER alone is no row of PARTS. */
        private boolean mayStand(int number, Letters w, int from, Words words) {
            int size = words.sizeOf(number);
            return size >= leastLetters && size < w.size() && words.isMarked(MEMBER, number)
                    && words.standsAt(number, w, from);
        }

        private void noteFirst(int number, int from, int next, int end) {
            if (from < 0 || from >= next || next > end || end > LETTERS_MOST) {
                return;
            }
            if (next < end && counts[next] == 0) {
                return;
            }
            int then = counts[next] + 1;
            boolean fewer = counts[from] == 0 || then < counts[from];
            if (fewer || then == counts[from] && next > nexts[from]) {
                counts[from] = then;
                firsts[from] = number;
                nexts[from] = next;
            }
        }
    }

    private static final class Keys {
        private static final int FIGURES_MOST = 4, SOUNDS_MOST = 6;

        /** The figures of a to z; 0: none. */
        private static final char[] FIGURES = {
            '0', '1', '2', '3', '0', '1', '2', '0', '0', '2', '2', '4', '5',
            '5', '0', '1', '2', '6', '2', '3', '0', '1', '0', '2', '0', '2'
        };

        static void layFigures(Letters w, Letters into) {
            into.shorten(0);
            into.add(w.at(0));
            char before = figureOf(w.at(0));
            for (int i = 1; i < w.size(); i++) {
                char c = w.at(i);
                if (c != 'h' && c != 'w') {
                    char figure = figureOf(c);
                    if (figure != '0' && figure != before) {
                        into.add(figure);
                    }
                    before = figure;
                }
            }
            into.shorten(FIGURES_MOST);
            for (int i = into.size(); i < FIGURES_MOST; i++) {
                into.add('0');
            }
        }

        /** Changes the letters of w on its way. */
        static void laySounds(Letters w, Letters into) {
            changeBeginning(w);
            if (w.size() >= 3) {
                changeEnding(w);
            }
            into.shorten(0);
            into.add(w.at(0));
            for (int i = 1; i < w.size(); i++) {
                changeLetter(w, i);
                if (w.at(i) != into.at(into.size() - 1)) {
                    into.add(w.at(i));
                }
            }
            trimEnd(into);
            into.shorten(SOUNDS_MOST);
        }

        private static char figureOf(char c) {
            return c >= 'a' && c <= 'z' ? FIGURES[c - 'a'] : '0';
        }

        private static boolean changeBeginning(Letters w) {
            return w.changeAt(0, "mac", "mcc") || w.changeAt(0, "kn", "nn") || w.changeAt(0, "k", "c")
                    || w.changeAt(0, "ph", "ff") || w.changeAt(0, "pf", "ff") || w.changeAt(0, "sch", "sss");
        }

        private static boolean changeEnding(Letters w) {
            return w.changeEnd("ee", "y") || w.changeEnd("ie", "y") || w.changeEnd("dt", "d")
                    || w.changeEnd("rt", "d") || w.changeEnd("rd", "d") || w.changeEnd("nt", "d")
                    || w.changeEnd("nd", "d");
        }

        private static void changeLetter(Letters w, int i) {
            if (w.changeAt(i, "ev", "af")) {
                return;
            }
            char c = w.at(i);
            char before = w.at(i - 1);
            if (isVowel(c)) {
                w.put(i, 'a');
            } else if (c == 'h' && (!isVowel(before) || !isVowel(w.at(i + 1)))) {
                w.put(i, before);
            } else if (c == 'w' && isVowel(before)) {
                w.put(i, before);
            } else {
                changeConsonant(w, i);
            }
        }

        private static boolean changeConsonant(Letters w, int i) {
            return w.changeAt(i, "q", "g") || w.changeAt(i, "z", "s") || w.changeAt(i, "m", "n")
                    || w.changeAt(i, "kn", "nn") || w.changeAt(i, "k", "c")
                    || w.changeAt(i, "sch", "sss") || w.changeAt(i, "ph", "ff");
        }

        private static void trimEnd(Letters into) {
            if (into.size() > 1) {
                into.changeEnd("s", "");
            }
            if (into.size() > 1) {
                into.changeEnd("ay", "y");
            }
            if (into.size() > 1) {
                into.changeEnd("a", "");
            }
        }
    }

    /** Finds the WORDS of a TEXT on THE TAPE, one piece of 24 letters at most each time. */
    private static final class Cutter {
        private final Letters piece = new Letters();
        private int place;
        private int bytes;
        private int next;
        /** Where the letters of the row end that is cut into pieces now, and its bytes, 's with them. */
        private int lettersEnd;
        private int rowEnd;

        Letters piece() {
            return piece;
        }

        int place() {
            return place;
        }

        int bytes() {
            return bytes;
        }

        void begin() {
            next = 0;
            lettersEnd = 0;
            rowEnd = 0;
        }

        boolean findPiece(Tape tape) {
            if (next >= lettersEnd && !findLetters(tape)) {
                return false;
            }
            place = next;
            piece.shorten(0);
            while (next < lettersEnd && (piece.size() < LETTERS_MOST || tape.letterAt(next) == NO_LETTER)) {
                if (tape.letterAt(next) != NO_LETTER) {
                    piece.add(tape.letterAt(next));
                }
                next++;
            }
            bytes = (next < lettersEnd ? next : rowEnd) - place;
            return true;
        }

        private boolean findLetters(Tape tape) {
            next = rowEnd;
            while (next < tape.size() && tape.letterAt(next) == NO_LETTER) {
                next++;
            }
            rowEnd = next;
            while (rowEnd < tape.size() && (tape.letterAt(rowEnd) != NO_LETTER || tape.joinsAt(rowEnd))) {
                rowEnd++;
            }
            boolean owns = rowEnd - 2 > next && tape.joinsAt(rowEnd - 2) && tape.letterAt(rowEnd - 1) == 's';
            lettersEnd = owns ? rowEnd - 2 : rowEnd;
            return next < rowEnd;
        }
    }

    /** The TOKENS of the latest TEXT, and beside them those of one that may still be refused. */
    private static final class Tokens {
        static final int FIELDS = 5;

        private final int[] kept = new int[TOKENS_MOST * FIELDS];
        private int keptCount;
        private int keptPositions;
        private final int[] fresh = new int[TOKENS_MOST * FIELDS];
        private int freshCount;
        private int freshPositions;

        int count() {
            return keptCount;
        }

        int positions() {
            return keptPositions;
        }

        int get(int i, int what) {
            boolean is = i >= 0 && i < keptCount && what >= 0 && what < FIELDS;
            return is ? kept[i * FIELDS + what] : NONE;
        }

        void begin() {
            freshCount = 0;
            freshPositions = 0;
        }

        boolean haveRoom() {
            return freshCount < TOKENS_MOST;
        }

        int nextPosition() {
            freshPositions++;
            return freshPositions - 1;
        }

        void add(int position, int place, int bytes, int number, int stemNumber) {
            if (!haveRoom()) {
                return;
            }
            int from = freshCount * FIELDS;
            fresh[from] = position;
            fresh[from + 1] = place;
            fresh[from + 2] = bytes;
            fresh[from + 3] = number;
            fresh[from + 4] = stemNumber;
            freshCount++;
        }

        void keep() {
            System.arraycopy(fresh, 0, kept, 0, freshCount * FIELDS);
            keptCount = freshCount;
            keptPositions = freshPositions;
        }
    }
}
