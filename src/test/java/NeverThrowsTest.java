import java.util.Random;

/** Every call in many states, with arguments far out too: none may throw, and no answer is below NONE. */
public final class NeverThrowsTest {
    private static final int[] FAR = {Integer.MIN_VALUE, Integer.MIN_VALUE + 1, -6, -5, -4, -1, 0, 1, 2, 3, 4, 5, 7, 8,
        9, 12, 13, 23, 24, 25, 39, 40, 59, 60, 61, 149, 150, 399, 400, 401, Integer.MAX_VALUE - 1, Integer.MAX_VALUE};

    /** The dearest of them lays a text of 200 bytes, so that none ends beyond 512 calls. */
    private static final int CALLS = 512 - 12;

    public static void main(String[] args) {
        Random random = new Random(7);
        for (int run = 0; run < 300; run++) {
            Desk d = new Desk();
            while (d.calls() < CALLS) {
                int call = random.nextInt(26);
                long answer = answer(d, call, random);
                Desk.due("call " + call + " is below NONE", answer < StemRules.NONE ? 1 : 0, 0);
            }
        }
        Desk.end();
    }

    private static int any(Random random) {
        return random.nextInt(3) == 0 ? FAR[random.nextInt(FAR.length)] : random.nextInt(12);
    }

    private static String letters(Random random, String from, int most) {
        StringBuilder text = new StringBuilder();
        int n = random.nextInt(most);
        for (int i = 0; i < n; i++) {
            text.append(from.charAt(random.nextInt(from.length())));
        }
        return text.toString();
    }

    private static int answer(Desk d, int call, Random random) {
        int a = any(random);
        int b = any(random);
        int c = any(random);
        boolean p = random.nextBoolean();
        boolean q = random.nextBoolean();
        switch (call) {
            case 0: return d.feed(random.nextInt(), a, b, c, random.nextInt());
            case 1: return d.cut(a);
            case 2: return d.out(a);
            case 3: return d.word();
            case 4: return d.spell(a);
            case 5: return d.stem(b, a);
            case 6: return d.step(a, b);
            case 7: return d.measure(a);
            case 8: return d.mark(b, a, p);
            case 9: return d.pair(a, b);
            case 10: return d.row(a, p, b, c, q);
            case 11: return random.nextInt(20) == 0 ? d.rowless() : d.told(a);
            case 12: return d.affix(p, a, b);
            case 13: return d.base(a, b);
            case 14: return d.least(a);
            case 15: return d.part(a, b);
            case 16: return d.key(b, a);
            case 17: return d.text(a);
            case 18: return d.token(a, b);
            case 19: return d.told(a);
            case 20: return d.text(random.nextInt(4), letters(random, "abseSY' ", 200));
            case 21: return d.text(random.nextInt(4), letters(random, "ab's", 100));
            default: return d.know(letters(random, "aeysbkhw", 26));
        }
    }
}
