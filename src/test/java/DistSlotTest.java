import java.lang.reflect.Constructor;
import java.lang.reflect.Field;
import java.lang.reflect.Method;
import java.lang.reflect.Modifier;
import java.util.TreeSet;

/**
 * The project's own tests, one group a promise. Prints every answer that is not the one due,
 * and ends with exit code 1 if there was one.
 */
public final class DistSlotTest {
    private static final int MIN = Integer.MIN_VALUE;
    private static final int MAX = Integer.MAX_VALUE;
    private static final int MOST_LINES = 50;

    /** The document's table, copied and not computed: slot, width, base, last distance. */
    private static final int[][] TABLE = {
        {0, 0, 1, 1}, {1, 0, 2, 2}, {2, 0, 3, 3}, {3, 0, 4, 4}, {4, 1, 5, 6},
        {5, 1, 7, 8}, {6, 2, 9, 12}, {7, 2, 13, 16}, {8, 3, 17, 24}, {9, 3, 25, 32},
        {10, 4, 33, 48}, {11, 4, 49, 64}, {12, 5, 65, 96}, {13, 5, 97, 128}, {14, 6, 129, 192},
        {15, 6, 193, 256}, {16, 7, 257, 384}, {17, 7, 385, 512}, {18, 8, 513, 768},
        {19, 8, 769, 1024}, {20, 9, 1025, 1536}, {21, 9, 1537, 2048}, {22, 10, 2049, 3072},
        {23, 10, 3073, 4096}, {24, 11, 4097, 6144}, {25, 11, 6145, 8192}, {26, 12, 8193, 12288},
        {27, 12, 12289, 16384}, {28, 13, 16385, 24576}, {29, 13, 24577, 32768},
    };

    private static int wrong = 0;

    public static void main(String[] args) {
        tableFollowsTheRules();
        publicFace();
        promise1SameAnswersAlways();
        promise1KeepsNoState();
        promise2Examples();
        promise2EveryDistance();
        promise3Examples();
        promise3EveryDistance();
        promises2And3WrongDistances();
        promise4Examples();
        promise4EveryAcceptedPair();
        promise4BitsThatDoNotFit();
        promise4WrongSlots();
        promise4RoundTrip();
        System.out.println(wrong == 0 ? "all answers are as due" : wrong + " answers are not as due");
        if (wrong != 0) {
            System.exit(1);
        }
    }

    // ---- the table and the public face

    /** Guards the other tests: a slip in copying the table would make them ask for the wrong thing. */
    private static void tableFollowsTheRules() {
        due("slots in the table", TABLE.length, 30);
        int base = 1;
        for (int s = 0; s < TABLE.length; s++) {
            int width = s < 2 ? 0 : (s >> 1) - 1;
            due("table: slot " + s, TABLE[s][0], s);
            due("table: width of " + s, TABLE[s][1], width);
            due("table: base of " + s, TABLE[s][2], base);
            due("table: last of " + s, TABLE[s][3], base + (1 << width) - 1);
            base += 1 << width;
        }
        due("table: first distance past it", base, 32769);
    }

    private static void publicFace() {
        TreeSet<String> seen = new TreeSet<>();
        for (Constructor<?> c : DistSlot.class.getDeclaredConstructors()) {
            seen.add(c.toString());
        }
        for (Method m : DistSlot.class.getDeclaredMethods()) {
            if (!Modifier.isPrivate(m.getModifiers())) {
                seen.add(m.toString());
            }
        }
        for (Field f : DistSlot.class.getDeclaredFields()) {
            if (!Modifier.isPrivate(f.getModifiers())) {
                seen.add(f.toString());
            }
        }
        TreeSet<String> face = new TreeSet<>();
        face.add("public DistSlot()");
        face.add("public int DistSlot.slot(int)");
        face.add("public int DistSlot.extra(int)");
        face.add("public int DistSlot.join(int,int)");
        holds("the visible members are those of the document, seen: " + seen, seen.equals(face));
        int modifiers = DistSlot.class.getModifiers();
        holds("the class is public and final", modifiers == (Modifier.PUBLIC | Modifier.FINAL));
        holds("the class extends Object", DistSlot.class.getSuperclass() == Object.class);
        due("interfaces", DistSlot.class.getInterfaces().length, 0);
        due("nested classes", DistSlot.class.getDeclaredClasses().length, 0);
    }

    // ---- promise 1

    private static final int[] PROBES = {
        MIN, -32768, -1, 0, 1, 2, 3, 4, 5, 6, 7, 8, 13, 28, 29, 30, 31, 8191, 8192, 16385, 24576,
        24577, 32767, 32768, 32769, 65537, MAX,
    };

    private static void promise1SameAnswersAlways() {
        DistSlot used = new DistSlot();
        long[] first = answers(used, false);
        same("again on the same object", answers(used, false), first);
        same("backwards on the same object", answers(used, true), first);
        DistSlot other = new DistSlot();
        same("backwards on another object", answers(other, true), first);
        same("on another object", answers(other, false), first);
        same("on the first object, after the other was used", answers(used, false), first);
        same("each call on a new object", answersOfNewObjects(), first);
        for (int i = 0; i < 100000; i++) {
            due("slot(24576), call " + i, used.slot(24576), 28);
            due("extra(6), call " + i, used.extra(6), 17);
            due("join(4, 2), call " + i, used.join(4, 2), -2);
        }
    }

    /** What a call could alter is a field; the class may have fields, but none may differ after calls. */
    private static void promise1KeepsNoState() {
        DistSlot x = new DistSlot();
        String before = fieldsOf(x);
        answers(x, false);
        answers(x, true);
        holds("the fields are the same after calls", before.equals(fieldsOf(x)));
    }

    private static long[] answers(DistSlot x, boolean backwards) {
        int n = PROBES.length;
        long[] all = new long[n * (n + 2)];
        for (int k = 0; k < all.length; k++) {
            int i = backwards ? all.length - 1 - k : k;
            all[i] = answer(x, i);
        }
        return all;
    }

    private static long[] answersOfNewObjects() {
        int n = PROBES.length;
        long[] all = new long[n * (n + 2)];
        for (int i = 0; i < all.length; i++) {
            all[i] = answer(new DistSlot(), i);
        }
        return all;
    }

    private static long answer(DistSlot x, int i) {
        int a = PROBES[i / (PROBES.length + 2)];
        int call = i % (PROBES.length + 2);
        if (call == PROBES.length) {
            return x.slot(a);
        }
        if (call == PROBES.length + 1) {
            return x.extra(a);
        }
        return x.join(a, PROBES[call]);
    }

    private static String fieldsOf(DistSlot x) {
        StringBuilder text = new StringBuilder();
        for (Field f : DistSlot.class.getDeclaredFields()) {
            f.setAccessible(true);
            try {
                Object value = f.get(x);
                text.append(f.getName()).append('=').append(java.util.Arrays.deepToString(new Object[] {value}));
            } catch (IllegalAccessException e) {
                holds("field " + f.getName() + " can be read", false);
            }
        }
        return text.toString();
    }

    // ---- promise 2

    private static void promise2Examples() {
        int[][] rows = {
            {1, 0}, {2, 1}, {3, 2}, {4, 3}, {5, 4}, {6, 4}, {7, 5}, {8, 5},
            {24576, 28}, {24577, 29}, {32768, 29}, {0, -1}, {32769, -1},
        };
        DistSlot x = new DistSlot();
        for (int[] row : rows) {
            due("slot(" + row[0] + ")", x.slot(row[0]), row[1]);
        }
    }

    private static void promise2EveryDistance() {
        DistSlot x = new DistSlot();
        for (int[] row : TABLE) {
            for (int dist = row[2]; dist <= row[3]; dist++) {
                due("slot(" + dist + ")", x.slot(dist), row[0]);
            }
        }
    }

    // ---- promise 3

    private static void promise3Examples() {
        int[][] rows = {
            {1, 0}, {4, 0}, {6, 17}, {32768, 131069}, {24577, 13}, {24576, 131069}, {0, -1}, {32769, -1},
        };
        DistSlot x = new DistSlot();
        for (int[] row : rows) {
            due("extra(" + row[0] + ")", x.extra(row[0]), row[1]);
        }
    }

    private static void promise3EveryDistance() {
        DistSlot x = new DistSlot();
        for (int[] row : TABLE) {
            for (int dist = row[2]; dist <= row[3]; dist++) {
                due("extra(" + dist + ")", x.extra(dist), (dist - row[2]) * 16 + row[1]);
            }
        }
    }

    // ---- promises 2 and 3 on what is no distance

    private static void promises2And3WrongDistances() {
        DistSlot x = new DistSlot();
        for (int i = 0; i <= 100000; i++) {
            noDistance(x, -i);
            noDistance(x, 32769 + i);
            noDistance(x, MIN + i);
            noDistance(x, MAX - i);
        }
        for (int bit = 16; bit < 32; bit++) {
            for (int low = 0; low <= 32768; low += 127) {
                noDistance(x, (1 << bit) + low);
            }
        }
        // An odd step, so that every pattern of low bits comes up.
        for (long dist = MIN; dist <= MAX; dist += 4099) {
            if (dist < 1 || dist > 32768) {
                noDistance(x, (int) dist);
            }
        }
    }

    private static void noDistance(DistSlot x, int dist) {
        due("slot(", dist, x.slot(dist), -1);
        due("extra(", dist, x.extra(dist), -1);
    }

    // ---- promise 4

    private static void promise4Examples() {
        int[][] rows = {
            {0, 0, 1}, {29, 8191, 32768}, {4, 1, 6}, {4, 2, -2}, {30, 0, -1}, {-1, -1, -1},
            {28, 8191, 24576}, {28, 8192, -2}, {29, 8192, -2}, {28, 0, 16385}, {29, 0, 24577},
        };
        DistSlot x = new DistSlot();
        for (int[] row : rows) {
            due("join(" + row[0] + ", " + row[1] + ")", x.join(row[0], row[1]), row[2]);
        }
    }

    private static void promise4EveryAcceptedPair() {
        DistSlot x = new DistSlot();
        for (int[] row : TABLE) {
            for (int dist = row[2]; dist <= row[3]; dist++) {
                int bits = dist - row[2];
                int joined = x.join(row[0], bits);
                due("join(" + row[0] + ", " + bits + ")", joined, dist);
                due("slot(join(" + row[0] + ", " + bits + "))", x.slot(joined), row[0]);
            }
        }
    }

    private static void promise4BitsThatDoNotFit() {
        DistSlot x = new DistSlot();
        for (int[] row : TABLE) {
            int size = row[3] - row[2] + 1;
            for (int i = 0; i <= 20000; i++) {
                doNotFit(x, row[0], size + i);
                doNotFit(x, row[0], -1 - i);
                doNotFit(x, row[0], MIN + i);
                doNotFit(x, row[0], MAX - i);
            }
            for (int bit = 14; bit < 32; bit++) {
                doNotFit(x, row[0], 1 << bit);
                doNotFit(x, row[0], (1 << bit) + size - 1);
            }
        }
    }

    private static void doNotFit(DistSlot x, int slot, int bits) {
        int got = x.join(slot, bits);
        if (got != -2) {
            due("join(" + slot + ", " + bits + ")", got, -2);
        }
    }

    private static void promise4WrongSlots() {
        int[] manyBits = {0, 1, -1, 2, 8191, 8192, 32768, MIN, MAX};
        DistSlot x = new DistSlot();
        for (int bits : manyBits) {
            for (int i = 0; i <= 10000; i++) {
                noSlot(x, -1 - i, bits);
                noSlot(x, 30 + i, bits);
                noSlot(x, MIN + i, bits);
                noSlot(x, MAX - i, bits);
            }
            for (int bit = 5; bit < 32; bit++) {
                for (int low = 0; low < 30; low++) {
                    noSlot(x, (1 << bit) + low, bits);
                }
            }
        }
    }

    private static void noSlot(DistSlot x, int slot, int bits) {
        int got = x.join(slot, bits);
        if (got != -1) {
            due("join(" + slot + ", " + bits + ")", got, -1);
        }
    }

    private static void promise4RoundTrip() {
        DistSlot x = new DistSlot();
        for (int dist = 1; dist <= 32768; dist++) {
            int s = x.slot(dist);
            int packed = x.extra(dist);
            due("join(slot, extra >> 4) of " + dist, x.join(s, packed >> 4), dist);
            if (s >= 0 && s < TABLE.length) {
                due("extra(" + dist + ") & 15", packed & 15, TABLE[s][1]);
            }
        }
    }

    // ---- what the tests are told with

    private static void due(String call, long got, long want) {
        if (got != want) {
            tell(call + " answered " + got + ", due is " + want);
        }
    }

    /** Builds the text only for a wrong answer: the long sweeps make millions of calls. */
    private static void due(String method, int argument, int got, int want) {
        if (got != want) {
            tell(method + argument + ") answered " + got + ", due is " + want);
        }
    }

    private static void same(String when, long[] got, long[] want) {
        for (int i = 0; i < want.length; i++) {
            due("call " + i + " " + when, got[i], want[i]);
        }
    }

    private static void holds(String what, boolean held) {
        if (!held) {
            tell("does not hold: " + what);
        }
    }

    /** Stops printing after a while, so that one broken bound doesn't hide the first rows. */
    private static void tell(String line) {
        wrong++;
        if (wrong <= MOST_LINES) {
            System.out.println(line);
        }
    }
}
