/** Promise 18: key. */
public final class KeysTest {
    public static void main(String[] args) {
        refusals();
        figures();
        figureOfEachLetter();
        soundsBeginAndEnd();
        soundsBetween();
        soundsAtLast();
        Desk.end();
    }

    private static void keys(int which, String... pairs) {
        Desk d = new Desk();
        for (int i = 0; i < pairs.length; i += 2) {
            Desk.due("key " + which + " of " + pairs[i], d.keyed(which, pairs[i]), pairs[i + 1]);
        }
    }

    private static void refusals() {
        Desk d = new Desk();
        d.know("robert");
        Desk.due("key(0, 0)", d.rules.key(0, 0), 4);
        Desk.due("key(1, 0)", d.rules.key(1, 0), 5);
        Desk.due("key(2, 0)", d.rules.key(2, 0), StemRules.OUTSIDE);
        Desk.due("key(-1, 0)", d.rules.key(-1, 0), StemRules.OUTSIDE);
        Desk.due("key(0, 1)", d.rules.key(0, 1), StemRules.UNKNOWN);
        Desk.due("UNKNOWN before OUTSIDE", d.rules.key(2, 1), StemRules.UNKNOWN);
        Desk.due("the WORD is as it was", d.spelled(0), "robert");
        d.know("schmidt");
        d.rules.key(1, 0);
        Desk.due("key of one before", d.shown(), "rabad");
    }

    private static void figures() {
        keys(0, "robert", "r163", "rupert", "r163", "rubin", "r150", "ashcraft", "a261", "ashcroft", "a261",
                "tymczak", "t522", "pfister", "p236", "honeyman", "h555", "a", "a000", "b", "b000",
                "bfpv", "b000", "bab", "b100", "bhb", "b000", "bwhb", "b000", "byb", "b100", "hb", "h100",
                "wwb", "w100", "acgjkqsxz", "a200", "adt", "a300", "al", "a400", "amn", "a500", "ar", "a600",
                "abcdlmr", "a123", "generalizations", "g564", "sshs", "s000", "lloyd", "l300");
    }

    private static void figureOfEachLetter() {
        Desk d = new Desk();
        String due = "01230120022455012623010202";
        for (int i = 0; i < 26; i++) {
            String word = "a" + (char) ('a' + i);
            Desk.due("key 0 of " + word, d.keyed(0, word), "a" + due.charAt(i) + "00");
        }
        for (char vowel : "aeiouy".toCharArray()) {
            Desk.due("a like figure behind " + vowel, d.keyed(0, "c" + vowel + "k"), "c200");
        }
    }

    private static void soundsBeginAndEnd() {
        keys(1, "macdonald", "mcdana", "mac", "mc", "knight", "nagt", "kate", "cat", "phil", "fal",
                "pfister", "fastar", "schmidt", "snad", "k", "c", "kn", "n", "ph", "f", "pf", "f", "sch", "s",
                "lee", "ly", "ee", "e", "marie", "mary", "ie", "i", "schmidts", "snadt", "bart", "bad",
                "bard", "bad", "grant", "grad", "brand", "brad", "nd", "nd", "rt", "rt", "and", "ad", "nee", "ny");
    }

    private static void soundsBetween() {
        keys(1, "bevel", "bafal", "bobib", "babab", "aqaq", "agag", "azab", "asab", "amab", "anab",
                "aknab", "anab", "azchab", "ascab", "akab", "acab", "aschab", "asab", "aphab", "afab", "ahab", "ahab",
                "abhab", "abab", "ahbab", "abab", "ah", "a", "bawl", "bal", "bwal", "bwal", "ewb", "eb",
                "wheeler", "walar", "hh", "h", "obb", "ob", "yhb", "yb", "awhab", "ahab", "eve", "ev", "beve", "baf",
                "kevknock", "cafnac");
    }

    private static void soundsAtLast() {
        keys(1, "s", "s", "ss", "s", "jones", "jan", "as", "a", "bay", "by", "ay", "y", "bays", "by", "ba", "b",
                "aa", "a", "ea", "e", "bayas", "bay", "a", "a", "basas", "bas", "brownsmithers", "bransn",
                "generalizations", "ganara", "abacadas", "abacad", "abacaday", "abacad");
    }
}
