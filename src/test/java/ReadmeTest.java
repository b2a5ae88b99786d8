import java.io.IOException;
import java.nio.file.Files;
import java.nio.file.Path;
import java.util.HashSet;
import java.util.List;
import java.util.Set;

/** The examples of README.md: they answer what it says, and each line of them stands here as it stands there. */
public final class ReadmeTest {
    public static void main(String[] args) throws IOException {
        Desk.says("README.md, Use");
        bytes();
        stems();
        basesAndParts();
        keys();
        texts();
        eachLineStandsHere();
        everyCallIsTold();
        Desk.end();
    }

    static void put(StemRules rules, String text) {
        int before = rules.told(5);
        for (int from = 0; from < text.length(); from += 20) {
            rules.feed(four(text, from), four(text, from + 4), four(text, from + 8),
                    four(text, from + 12), four(text, from + 16));
        }
        rules.cut(before + text.length());
    }

    static int four(String text, int from) {
        int number = 0;
        for (int i = from; i < from + 4; i++) {
            number = number << 8 | (i < text.length() ? text.charAt(i) & 255 : 0);
        }
        return number;
    }

    static int know(StemRules rules, String word) {
        put(rules, word);
        return rules.word();
    }

    static String shown(StemRules rules) {
        StringBuilder text = new StringBuilder();
        for (int i = 0; i < rules.out(-1); i++) {
            text.append((char) rules.out(i));
        }
        return text.toString();
    }

    private static void bytes() {
        StemRules rules = new StemRules();
        rules.feed(0x706f6e69, 0x65730000, 0, 0, 0);   // 20: "ponies" and 14 bytes more
        rules.cut(6);                                  // 14 went: THE TAPE keeps "ponies"
        int ponies = rules.word();                     // 0, its number; THE TAPE is empty
        int letters = rules.stem(2, ponies);           // 4: Porter's "poni" is in THE OUT
        char first = (char) rules.out(0);              // 'p'

        Desk.due("ponies", ponies, 0);
        Desk.due("letters", letters, 4);
        Desk.due("first", first, 'p');
        Desk.due("THE OUT", shown(rules), "poni");
        Desk.due("bytes on THE TAPE", rules.told(5), 0);
        Desk.due("feed", rules.feed(0x706f6e69, 0x65730000, 0, 0, 0), 20);
        Desk.due("cut", rules.cut(6), 14);
    }

    private static void stems() {
        StemRules rules = new StemRules();
        int news = know(rules, "news");
        rules.mark(0, news, true);                     // PROTECTED
        rules.stem(1, news);                           // shown(rules) is "news"

        Desk.due("stem of news", shown(rules), "news");

        int mice = know(rules, "mice");
        rules.pair(mice, know(rules, "mouse"));        // a stem of its own
        rules.stem(2, mice);                           // "mouse"

        Desk.due("stem of mice", shown(rules), "mouse");

        int ing = know(rules, "ing");
        rules.row(ing, false, 3, StemRules.NONE, true);   // HUSK: ing goes, then on
        rules.stem(3, know(rules, "walking"));         // "walk"
        rules.step(know(rules, "hopping"), 1);         // "hop": Porter behind his step 1b

        Desk.due("step 1b of hopping", shown(rules), "hop");
        rules.stem(3, know(rules, "walking"));
        Desk.due("stem of walking", shown(rules), "walk");
    }

    private static void basesAndParts() {
        StemRules rules = new StemRules();
        int foot = know(rules, "foot"), ball = know(rules, "ball");
        rules.mark(2, foot, true);                     // MEMBERS of the dictionary
        rules.mark(2, ball, true);
        int football = know(rules, "football");
        int parts = rules.part(football, -1);          // 2
        int second = rules.part(football, 1);          // the number of "ball"

        Desk.due("parts", parts, 2);
        Desk.due("second", second, ball);

        rules.affix(true, know(rules, "s"), StemRules.NONE);
        int base = rules.base(know(rules, "balls"), 0);   // the number of "ball"

        Desk.due("base", base, ball);
    }

    private static void keys() {
        StemRules rules = new StemRules();
        int robert = know(rules, "robert");
        rules.key(0, robert);                          // "r163"
        Desk.due("key 0", shown(rules), "r163");
        rules.key(1, robert);                          // "rabad"
        Desk.due("key 1", shown(rules), "rabad");
    }

    private static void texts() {
        StemRules rules = new StemRules();
        rules.mark(1, know(rules, "the"), true);       // LEFT OUT of TEXTS
        put(rules, "The dog's ponies");
        int tokens = rules.text(2);                    // 2
        int position = rules.token(0, 0);              // 1: "the" has position 0
        int place = rules.token(0, 1);                 // 4
        int bytes = rules.token(0, 2);                 // 5, of "dog's"
        rules.spell(rules.token(0, 3));                // "dog"
        Desk.due("WORD", shown(rules), "dog");
        rules.spell(rules.token(1, 4));                // "poni"
        Desk.due("stem", shown(rules), "poni");

        Desk.due("tokens", tokens, 2);
        Desk.due("position", position, 1);
        Desk.due("place", place, 4);
        Desk.due("bytes", bytes, 5);
    }

    /** So that an example of README.md can't change without its test. */
    private static void eachLineStandsHere() throws IOException {
        Set<String> here = new HashSet<>();
        for (String line : Files.readAllLines(Path.of("src/test/java/ReadmeTest.java"))) {
            here.add(line.strip());
        }
        boolean java = false;
        int lines = 0;
        for (String line : readme()) {
            if (line.startsWith("```")) {
                java = line.equals("```java");
            } else if (java && !line.isBlank()) {
                lines++;
                Desk.due("in ReadmeTest: " + line.strip(), here.contains(line.strip()) ? 1 : 0, 1);
            }
        }
        Desk.due("README.md has examples", lines > 0 ? 1 : 0, 1);
    }

    private static void everyCallIsTold() throws IOException {
        String readme = String.join("\n", readme());
        for (String call : ("feed cut out word spell stem step measure mark pair row rowless affix base least part key"
                + " text token told").split(" ")) {
            Desk.due("README.md tells of " + call, readme.contains("`" + call + "(") ? 1 : 0, 1);
        }
    }

    private static List<String> readme() throws IOException {
        return Files.readAllLines(Path.of("README.md"));
    }
}
