/** Promise 18, KEYS: a test for each sentence. */
public final class KeysTest {
    private static final int OUTSIDE = Desk.OUTSIDE, UNKNOWN = Desk.UNKNOWN;

    public static void main(String[] args) {
        keyByNumber();
        figureOfEachLetter();
        likeFigures();
        likeTheFirst();
        hAndWBetween();
        fourSigns();
        soundsBeginning();
        soundsEnd();
        soundsEndOfTwoLetters();
        soundsFirstLetter();
        soundsLetterByLetter();
        soundsInTheWordAsItIsThen();
        soundsH();
        soundsW();
        soundsNotTwice();
        soundsAtLast();
        soundsOfOneLetter();
        sixLettersAtMost();
        knownKeys();
        Desk.end();
    }

    private static void keys(int which, String... wordsAndKeys) {
        for (int i = 0; i < wordsAndKeys.length; i += 2) {
            String got = new Desk().keyed(which, wordsAndKeys[i]);
            Desk.due("key " + which + " of " + wordsAndKeys[i], got, wordsAndKeys[i + 1]);
        }
    }

    private static void keyByNumber() {
        Desk.says("A KEY (0, 1) of a WORD to OUT: how many signs. UNKNOWN; OUTSIDE.");
        Desk d = new Desk().knowAll("robert", "schmidt");
        Desk.due("key(0, 0)", d.key(0, 0), 4);
        Desk.due("its signs", d.shown(), "r163");
        Desk.due("key(1, 0)", d.key(1, 0), 5);
        Desk.due("its signs", d.shown(), "rabad");
        Desk.due("key(2, 0)", d.key(2, 0), OUTSIDE);
        Desk.due("key(-1, 0)", d.key(-1, 0), OUTSIDE);
        Desk.due("key(0, 2)", d.key(0, 2), UNKNOWN);
        d.key(1, 1);
        Desk.due("the WORD is as it was", d.spelled(1), "schmidt");
        d.key(0, 0);
        Desk.due("the key again", d.shown(), "r163");
    }

    private static void figureOfEachLetter() {
        Desk.says("the first letter; for each other one its figure: b f p v 1, c g j k q s x z 2, d t 3, l 4, m n 5,"
                + " r 6, others none");
        String due = "01230120022455012623010202";
        for (int i = 0; i < 26; i++) {
            char letter = (char) ('a' + i);
            keys(0, "a" + letter, "a" + due.charAt(i) + "00", "" + letter, letter + "000");
        }
    }

    private static void likeFigures() {
        Desk.says("one whose figure is that of the letter before ... is left out");
        keys(0, "abfpv", "a100", "acgjkqsxz", "a200", "adt", "a300", "all", "a400", "amn", "a500", "arr", "a600",
                "abab", "a110", "abcb", "a121", "tymczak", "t522");
        for (char vowel : "aeiouy".toCharArray()) {
            keys(0, "ac" + vowel + "k", "a220");
        }
    }

    private static void likeTheFirst() {
        Desk.says("(the first one's, too)");
        keys(0, "bf", "b000", "pfister", "p236", "lloyd", "l300", "bab", "b100", "bcb", "b210", "ab", "a100");
    }

    private static void hAndWBetween() {
        Desk.says("also with h and w alone between, is left out");
        keys(0, "bhb", "b000", "bwb", "b000", "bwhhwb", "b000", "achk", "a200", "ashcraft", "a261", "bahb", "b100",
                "bhab", "b100", "bhyb", "b100", "bhc", "b200", "hb", "h100", "wwb", "w100", "hwhw", "h000");
    }

    private static void fourSigns() {
        Desk.says("four signs, cut or 0s behind");
        keys(0, "a", "a000", "ab", "a100", "abc", "a120", "abcd", "a123", "abcdl", "a123", "abcdlmr", "a123",
                "bcdlmrbcdlmrbcdlmrbcdlmr", "b234", Desk.times("a", 24), "a000");
    }

    private static void soundsBeginning() {
        Desk.says("first the beginning changes, by the first that fits: mac mcc, kn nn, k c, ph ff, pf ff, sch sss");
        keys(1, "macdonald", "mcdana", "mac", "mc", "knight", "nagt", "kn", "n", "kate", "cat", "k", "c", "phil", "fal",
                "ph", "f", "pfister", "fastar", "pf", "f", "schmidt", "snad", "sch", "s", "mad", "mad", "pad", "pad",
                "scad", "scad", "nad", "nad");
    }

    private static void soundsEnd() {
        Desk.says("then the end (if it has 3 letters or more): ee y, ie y, dt d, rt d, rd d, nt d, nd d");
        keys(1, "lee", "ly", "nie", "ny", "adt", "ad", "bart", "bad", "bard", "bad", "grant", "grad", "brand", "brad",
                "bradt", "brad", "bat", "bat", "bad", "bad", "beed", "bad", "bnndt", "bnd");
    }

    private static void soundsEndOfTwoLetters() {
        Desk.says("(if it has 3 letters or more)");
        keys(1, "ee", "e", "ie", "i", "dt", "dt", "rt", "rt", "rd", "rd", "nt", "nt", "nd", "nd", "and", "ad");
    }

    private static void soundsFirstLetter() {
        Desk.says("The key begins with the first letter.");
        keys(1, "ed", "ed", "evd", "evd", "qd", "qd", "zd", "zd", "md", "md", "hd", "hd", "wd", "wd", "kd", "cd", "od", "od");
    }

    private static void soundsLetterByLetter() {
        Desk.says("from the second on, letter by letter (the first that fits): ev becomes af; a VOWEL a; q g; z s; m n;"
                + " kn nn; another k c; sch sss; ph ff");
        keys(1, "bevd", "bafd", "bed", "bad", "bid", "bad", "bod", "bad", "bud", "bad", "bad", "bad", "byd", "byd",
                "bqd", "bgd", "bzd", "bsd", "bmd", "bnd", "baknab", "banab", "bkd", "bcd", "baschab", "basab",
                "bascab", "bascab", "baphab", "bafab", "bapab", "bapab", "bvd", "bvd", "bash", "b");
    }

    private static void soundsInTheWordAsItIsThen() {
        Desk.says("in the WORD as it is then");
        keys(1, "bevhab", "bafab", "baphhab", "bafab", "bazchab", "bascab", "eve", "ev", "beve", "baf", "bakevab", "bacafa",
                "phev", "faf", "knev", "naf");
    }

    private static void soundsH() {
        Desk.says("h, if the letter before or behind it is no VOWEL (or none is behind), becomes the one before");
        keys(1, "ahab", "ahab", "abhab", "abab", "ahbab", "abab", "bah", "b", "ohd", "od", "ehad", "ehad", "hhd", "hd",
                "yhad", "yad", "ahyd", "ayd", "bhd", "bd");
    }

    private static void soundsW() {
        Desk.says("w behind a VOWEL becomes the one before");
        keys(1, "bawl", "bal", "bwal", "bwal", "ewb", "eb", "bow", "b", "ywad", "ywad", "bawad", "bad", "awhab", "ahab");
    }

    private static void soundsNotTwice() {
        Desk.says("The letter that stands there then comes to the key, if it is not the key's last one.");
        keys(1, "bbd", "bd", "baad", "bad", "beid", "bad", "bddab", "bdab", "aad", "ad", "bszd", "bsd", "bdbd", "bdbd");
    }

    private static void soundsAtLast() {
        Desk.says("At last: an s at its end goes; ay at its end becomes y; an a at its end goes.");
        keys(1, "bads", "bad", "bay", "by", "bays", "by", "bda", "bd", "bas", "b", "basas", "bas", "bayas", "bay",
                "baya", "bay", "bys", "by", "baass", "b", "basy", "basy");
    }

    private static void soundsOfOneLetter() {
        Desk.says("if the key has more than one letter each time");
        keys(1, "s", "s", "ss", "s", "a", "a", "aa", "a", "as", "a", "ay", "y", "ays", "y", "sa", "s", "e", "e", "ea", "e",
                "sas", "s");
    }

    private static void sixLettersAtMost() {
        Desk.says("Six letters at most.");
        keys(1, "badbad", "badbad", "badbadb", "badbad", "bdbdbd", "bdbdbd", "bdbdbs", "bdbdb", "bdbdbds", "bdbdbd",
                "bdbdbsd", "bdbdbs", "bdbdbad", "bdbdba", "bdbday", "bdbdy", "bdbdbay", "bdbdby", "bdbdbday", "bdbdbd",
                Desk.times("bd", 12), "bdbdbd");
    }

    private static void knownKeys() {
        Desk.says("3 KEYS");
        keys(0, "rupert", "r163", "rubin", "r150", "ashcroft", "a261", "honeyman", "h555", "generalizations", "g564");
        keys(1, "generalizations", "ganara", "wheeler", "walar", "marie", "mary", "brownsmithers", "bransn", "jones", "jan");
    }
}
