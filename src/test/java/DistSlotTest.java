import java.lang.reflect.Constructor;
import java.lang.reflect.Field;
import java.lang.reflect.Method;
import java.lang.reflect.Modifier;
import java.util.Arrays;
import java.util.TreeSet;
import java.util.function.Consumer;

/**
 * The project's own tests: one test a sentence of the document, told by that sentence, each on a new
 * object. Prints the first answers of each test that are not the ones due, and ends with exit code 1
 * if there was one.
 */
public final class DistSlotTest {
    private static final int MIN = Integer.MIN_VALUE;
    private static final int MAX = Integer.MAX_VALUE;
    private static final int LAST_DISTANCE = 32768;
    private static final int LAST_SLOT = 29;
    private static final int MOST_LINES_A_TEST = 8;
    private static final long MOST_MILLIS_FOR_EDGES = 60000;

    /** Coprime to every power of two, so that steps of it meet every pattern of low bits. */
    private static final int ODD_STEP = 4099;

    /** The document's table, copied and not computed: slot, width, base, last distance. */
    private static final int[][] TABLE = {
        {0, 0, 1, 1}, {1, 0, 2, 2}, {2, 0, 3, 3}, {3, 0, 4, 4}, {4, 1, 5, 6},
        {5, 1, 7, 8}, {6, 2, 9, 12}, {7, 2, 13, 16}, {8, 3, 17, 24}, {9, 3, 25, 32},
        {10, 4, 33, 48}, {11, 4, 49, 64}, {12, 5, 65, 96}, {13, 5, 97, 128}, {14, 6, 129, 192},
        {15, 6, 193, 256}, {16, 7, 257, 384}, {17, 7, 385, 512}, {18, 8, 513, 768},
        {19, 8, 769, 1024}, {20, 9, 1025, 1536}, {21, 9, 1537, 2048}, {22, 10, 2049, 3072},
        {23, 10, 3073, 4096}, {24, 11, 4097, 6144}, {25, 11, 6145, 8192}, {26, 12, 8193, 12288},
        {27, 12, 12289, 16384}, {28, 13, 16385, 24576}, {29, 13, 24577, 32768},
    };

    /** Arguments at and beside every edge that the document names. */
    private static final int[] EDGES = {
        MIN, MIN + 1, -32769, -32768, -8192, -30, -2, -1, 0, 1, 2, 3, 4, 5, 6, 7, 8, 9, 13, 27, 28, 29,
        30, 31, 32, 8190, 8191, 8192, 8193, 16384, 16385, 24575, 24576, 24577, 32767, 32768, 32769,
        65536, 65537, MAX - 1, MAX,
    };

    private static String sentence = "";
    private static int tests = 0;
    private static int wrong = 0;
    private static int wrongInTest = 0;

    public static void main(String[] args) {
        everyEdgeIsAnswered();
        whatItIs();
        promise1();
        promise2();
        promise3();
        promise3Packing();
        promise4Refusals();
        promise4Answers();
        promise4RoundTrip();
        System.out.println(wrong == 0
            ? tests + " tests: all answers are as due"
            : wrong + " answers told above are not as due");
        if (wrong != 0) {
            System.exit(1);
        }
    }

    // ---- What it is

    /** Comes first and under a limit of time: a call that never ends would hang every later test. */
    private static void everyEdgeIsAnswered() {
        Thread calls = new Thread(() -> {
            test("Nothing here ever throws; every method answers at every edge", x -> {
                for (int call = 0; call < CALLS; call++) {
                    due(nameOf(call), answer(x, call), dueAnswer(call));
                }
            });
        });
        calls.setDaemon(true);
        calls.start();
        try {
            calls.join(MOST_MILLIS_FOR_EDGES);
        } catch (InterruptedException e) {
            throw new IllegalStateException(e);
        }
        if (calls.isAlive()) {
            System.out.println("Every method answers for every int: a call at an edge did not end");
            System.exit(1);
        }
    }

    private static void whatItIs() {
        test("the table copied here follows the document's rules", x -> tableFollowsTheRules());
        test("The bases run 1, 2, 3, 4, 5, 7, 9, 13, ..., 16385, 24577", x -> {
            int[] first = {1, 2, 3, 4, 5, 7, 9, 13};
            for (int s = 0; s < first.length; s++) {
                joinIs(x, s, 0, first[s]);
            }
            joinIs(x, 28, 0, 16385);
            joinIs(x, 29, 0, 24577);
        });
        test("The slot ranges do not overlap, leave no gaps, and together cover exactly 1..32768",
            DistSlotTest::everyDistanceIsJoinedOnce);
        test("The class declares no public constants", x -> due("public fields", DistSlot.class.getFields().length, 0));
        test("The class offers nothing beyond the three methods and the constructor", x -> publicFace());
        test("Every method answers for Integer.MIN_VALUE", x -> {
            slotIs(x, MIN, -1);
            extraIs(x, MIN, -1);
            joinIs(x, MIN, MIN, -1);
            joinIs(x, MIN, 0, -1);
            joinIs(x, 0, MIN, -2);
        });
        test("Every method answers for Integer.MAX_VALUE", x -> {
            slotIs(x, MAX, -1);
            extraIs(x, MAX, -1);
            joinIs(x, MAX, MAX, -1);
            joinIs(x, MAX, 0, -1);
            joinIs(x, 0, MAX, -2);
        });
        test("Rejected input is reported by the negative answers -1 and -2", x -> {
            for (int call = 0; call < CALLS; call++) {
                int got = answer(x, call);
                holds(nameOf(call) + " answered " + got, got >= -2);
                holds(nameOf(call) + " answered " + got, (got < 0) == (dueAnswer(call) < 0));
            }
        });
    }

    /** Guards the other tests: a slip in copying the table would make them ask for the wrong thing. */
    private static void tableFollowsTheRules() {
        due("slots in the table", TABLE.length, 30);
        int base = 1;
        for (int s = 0; s < TABLE.length; s++) {
            int width = s < 2 ? 0 : (s >> 1) - 1;
            due("slot of row " + s, TABLE[s][0], s);
            due("width of " + s, TABLE[s][1], width);
            due("base of " + s, TABLE[s][2], base);
            due("last of " + s, TABLE[s][3], base + (1 << width) - 1);
            base += 1 << width;
        }
        due("first distance past the table", base, 32769);
    }

    private static void everyDistanceIsJoinedOnce(DistSlot x) {
        int[] times = new int[LAST_DISTANCE + 1];
        for (int s = 0; s <= LAST_SLOT; s++) {
            for (int bits = 0; bits <= LAST_DISTANCE; bits++) {
                int dist = x.join(s, bits);
                if (dist >= 1 && dist <= LAST_DISTANCE) {
                    times[dist]++;
                } else {
                    due("join(" + s + ", " + bits + ")", dist, -2);
                }
            }
        }
        for (int dist = 1; dist <= LAST_DISTANCE; dist++) {
            due("pairs that join to " + dist, times[dist], 1);
        }
    }

    private static void publicFace() {
        TreeSet<String> seen = new TreeSet<>();
        for (Constructor<?> c : DistSlot.class.getDeclaredConstructors()) {
            seen.add(c.toString());
        }
        for (Method m : DistSlot.class.getDeclaredMethods()) {
            if (!Modifier.isPrivate(m.getModifiers())) {
                seen.add(m.toString());
            }
        }
        for (Field f : DistSlot.class.getDeclaredFields()) {
            if (!Modifier.isPrivate(f.getModifiers())) {
                seen.add(f.toString());
            }
        }
        TreeSet<String> face = new TreeSet<>();
        face.add("public DistSlot()");
        face.add("public int DistSlot.slot(int)");
        face.add("public int DistSlot.extra(int)");
        face.add("public int DistSlot.join(int,int)");
        holds("the visible members are those of the document, seen: " + seen, seen.equals(face));
        int modifiers = DistSlot.class.getModifiers();
        holds("the class is public and final", modifiers == (Modifier.PUBLIC | Modifier.FINAL));
        holds("the class extends Object", DistSlot.class.getSuperclass() == Object.class);
        due("interfaces", DistSlot.class.getInterfaces().length, 0);
        due("nested classes", DistSlot.class.getDeclaredClasses().length, 0);
    }

    // ---- Promise 1: Construction

    private static void promise1() {
        test("1: new DistSlot() takes no arguments", x -> {
            Constructor<?>[] all = DistSlot.class.getDeclaredConstructors();
            due("constructors", all.length, 1);
            due("arguments", all[0].getParameterCount(), 0);
            due("declared exceptions", all[0].getExceptionTypes().length, 0);
        });
        test("1: It always succeeds and never throws", x -> {
            for (int i = 0; i < 1000000; i++) {
                slotIs(new DistSlot(), LAST_DISTANCE, 29);
            }
        });
        test("1: After construction the object never changes", x -> changesNothing(x, used -> {
            for (int call = 0; call < CALLS; call++) {
                answer(used, call);
            }
        }));
        test("1: The same value every time, on the same object, any number of times", x -> {
            for (int i = 0; i < 3000; i++) {
                sameAnswers("round " + i, x);
            }
        });
        test("1: The same value on any other DistSlot", x -> {
            for (int call = 0; call < CALLS; call++) {
                due(nameOf(call) + " on a new object", answer(new DistSlot(), call), dueAnswer(call));
            }
        });
        test("1: The same value in any order", DistSlotTest::everyCallAfterEveryOther);
        test("1: Two DistSlot objects behave identically", DistSlotTest::twoObjectsInTurn);
    }

    private static void everyCallAfterEveryOther(DistSlot x) {
        int[] want = dueAnswers();
        for (int before = 0; before < CALLS; before++) {
            for (int call = 0; call < CALLS; call++) {
                answer(x, before);
                int got = answer(x, call);
                if (got != want[call]) {
                    due(nameOf(call) + " after " + nameOf(before), got, want[call]);
                }
            }
        }
    }

    /** One is used much and the other is new: what the first was asked must not show in either. */
    private static void twoObjectsInTurn(DistSlot used) {
        for (int i = 0; i < 1000; i++) {
            sameAnswers("before the other is made", used);
        }
        DistSlot other = new DistSlot();
        for (int call = 0; call < CALLS; call++) {
            int got = answer(used, call);
            due(nameOf(call) + " on the other object", answer(other, call), got);
            due(nameOf(call) + " after the other object was asked", answer(used, call), got);
        }
    }

    // ---- Promise 2: slot

    private static void promise2() {
        test("2: If dist is outside 1..32768, the answer is -1: 0", x -> slotIs(x, 0, -1));
        test("2: .. every negative value including Integer.MIN_VALUE", x -> {
            for (int dist = -1; dist < 0; dist--) {
                slotIs(x, dist, -1);
            }
        });
        test("2: .. every value from 32769 up to Integer.MAX_VALUE", x -> {
            for (int dist = 32769; dist > 0; dist++) {
                slotIs(x, dist, -1);
            }
        });
        test("2: Otherwise the answer is the one slot whose range holds dist", x -> {
            for (int[] row : TABLE) {
                for (int dist = row[2]; dist <= row[3]; dist++) {
                    slotIs(x, dist, row[0]);
                }
            }
        });
        test("2: .. at the first and the last distance of each slot", x -> {
            for (int[] row : TABLE) {
                slotIs(x, row[2], row[0]);
                slotIs(x, row[3], row[0]);
            }
        });
        test("2: slot(1) is 0, slot(2) is 1, slot(3) is 2 and slot(4) is 3", x -> {
            slotIs(x, 1, 0);
            slotIs(x, 2, 1);
            slotIs(x, 3, 2);
            slotIs(x, 4, 3);
        });
        test("2: slot(5) and slot(6) are 4; slot(7) and slot(8) are 5", x -> {
            slotIs(x, 5, 4);
            slotIs(x, 6, 4);
            slotIs(x, 7, 5);
            slotIs(x, 8, 5);
        });
        test("2: slot(24576) is 28, slot(24577) is 29 and slot(32768) is 29", x -> {
            slotIs(x, 24576, 28);
            slotIs(x, 24577, 29);
            slotIs(x, 32768, 29);
        });
        test("2: slot(0) and slot(32769) are -1", x -> {
            slotIs(x, 0, -1);
            slotIs(x, 32769, -1);
        });
        test("2: Each valid answer lies in 0..29 and is never negative", x -> {
            for (int dist = 1; dist <= LAST_DISTANCE; dist++) {
                int got = x.slot(dist);
                holds("slot(" + dist + ") answered " + got, got >= 0 && got <= 29);
            }
        });
        test("2: Nothing changes", x -> changesNothing(x, used -> {
            for (int dist = -40000; dist <= 80000; dist++) {
                used.slot(dist);
            }
        }));
    }

    // ---- Promise 3: extra

    private static void promise3() {
        test("3: If dist is outside 1..32768, the answer is -1: 0", x -> extraIs(x, 0, -1));
        test("3: .. every negative value including Integer.MIN_VALUE", x -> {
            for (int dist = -1; dist < 0; dist--) {
                extraIs(x, dist, -1);
            }
        });
        test("3: .. every value from 32769 up to Integer.MAX_VALUE", x -> {
            for (int dist = 32769; dist > 0; dist++) {
                extraIs(x, dist, -1);
            }
        });
        test("3: The ranges are the same as for slot", x -> {
            for (int dist : EDGES) {
                holds("extra and slot both refuse or take " + dist, (x.extra(dist) == -1) == (x.slot(dist) == -1));
            }
            for (int dist = -40000; dist <= 80000; dist++) {
                holds("extra and slot both refuse or take " + dist, (x.extra(dist) == -1) == (x.slot(dist) == -1));
            }
        });
        test("3: Otherwise the answer is ((dist - base(s)) << 4) | w(s)", x -> {
            for (int[] row : TABLE) {
                for (int dist = row[2]; dist <= row[3]; dist++) {
                    extraIs(x, dist, (dist - row[2]) * 16 + row[1]);
                }
            }
        });
        test("3: extra(1) is 0", x -> extraIs(x, 1, 0));
        test("3: extra(4) is 0", x -> extraIs(x, 4, 0));
        test("3: extra(6) is 17", x -> extraIs(x, 6, 17));
        test("3: extra(32768) is 131069", x -> extraIs(x, 32768, 131069));
        test("3: extra(24577) is 13", x -> extraIs(x, 24577, 13));
        test("3: Nothing changes", x -> changesNothing(x, used -> {
            for (int dist = -40000; dist <= 80000; dist++) {
                used.extra(dist);
            }
        }));
    }

    private static void promise3Packing() {
        test("3: Its lowest four bits hold the width w(s), a value in 0..13", x -> {
            for (int[] row : TABLE) {
                for (int dist = row[2]; dist <= row[3]; dist++) {
                    int width = x.extra(dist) & 15;
                    due("extra(" + dist + ") & 15", width, row[1]);
                    holds("the width of " + dist + " is " + width, width <= 13);
                }
            }
        });
        test("3: The bits above them hold the offset, in 0 .. (1 << w(s)) - 1", x -> {
            for (int[] row : TABLE) {
                due("the offset of " + row[2], x.extra(row[2]) >> 4, 0);
                due("the offset of " + row[3], x.extra(row[3]) >> 4, (1 << row[1]) - 1);
                for (int dist = row[2]; dist <= row[3]; dist++) {
                    due("the offset of " + dist, x.extra(dist) >> 4, dist - row[2]);
                }
            }
        });
        test("3: The largest offset is 8191, in slots 28 and 29", x -> {
            due("the offset of 24576, slot 28", x.extra(24576) >> 4, 8191);
            due("the offset of 32768, slot 29", x.extra(32768) >> 4, 8191);
            for (int dist = 1; dist <= LAST_DISTANCE; dist++) {
                int offset = x.extra(dist) >> 4;
                boolean largest = dist == 24576 || dist == 32768;
                holds("the offset of " + dist + " is " + offset, largest ? offset == 8191 : offset < 8191);
            }
        });
        test("3: The largest answer is 131069", x -> {
            int largest = -1;
            for (int dist = 1; dist <= LAST_DISTANCE; dist++) {
                int got = x.extra(dist);
                largest = got > largest ? got : largest;
            }
            due("the largest answer", largest, 131069);
        });
        test("3: A valid answer is never negative and never overflows int", x -> {
            for (int[] row : TABLE) {
                for (int dist = row[2]; dist <= row[3]; dist++) {
                    int got = x.extra(dist);
                    long exact = (dist - (long) row[2]) * 16 + row[1];
                    holds("extra(" + dist + ") answered " + got, got >= 0 && got == exact);
                }
            }
        });
        test("3: The answers -1 and a valid answer never collide", x -> {
            for (int dist = 1; dist <= LAST_DISTANCE; dist++) {
                holds("extra(" + dist + ") is not -1", x.extra(dist) != -1);
            }
        });
    }

    // ---- Promise 4: join

    private static void promise4Refusals() {
        test("4: If slot is outside 0..29, the answer is -1: negative values including Integer.MIN_VALUE", x -> {
            for (int slot = -1; slot < 0; slot--) {
                joinIs(x, slot, 0, -1);
            }
        });
        test("4: .. 30 up to Integer.MAX_VALUE", x -> {
            for (int slot = 30; slot > 0; slot++) {
                joinIs(x, slot, 0, -1);
            }
        });
        test("4: .. whatever bits is", DistSlotTest::wrongSlotsWithAnyBits);
        test("4: Otherwise, if bits < 0, the answer is -2", x -> {
            for (int[] row : TABLE) {
                joinIs(x, row[0], -1, -2);
                joinIs(x, row[0], MIN, -2);
                for (int bits = -1; bits < 0; bits -= ODD_STEP) {
                    joinIs(x, row[0], bits, -2);
                }
            }
        });
        test("4: .. or if bits >= (1 << w(slot))", x -> {
            for (int[] row : TABLE) {
                joinIs(x, row[0], 1 << row[1], -2);
                joinIs(x, row[0], MAX, -2);
                for (int bits = 1 << row[1]; bits <= 65536; bits++) {
                    joinIs(x, row[0], bits, -2);
                }
                for (int bits = 65536; bits > 0; bits += ODD_STEP) {
                    joinIs(x, row[0], bits, -2);
                }
            }
        });
        test("4: For slots 0..3 only bits = 0 is accepted", x -> {
            for (int slot = 0; slot <= 3; slot++) {
                joinIs(x, slot, 0, slot + 1);
            }
        });
        test("4: For slots 0..3 any other value answers -2", x -> {
            for (int slot = 0; slot <= 3; slot++) {
                for (int i = 0; i < 1000000; i++) {
                    joinIs(x, slot, 1 + i, -2);
                    joinIs(x, slot, -1 - i, -2);
                    joinIs(x, slot, MIN + i, -2);
                    joinIs(x, slot, MAX - i, -2);
                }
                // The step is no divisor of MIN, so no step falls on 0.
                for (long bits = MIN; bits <= MAX; bits += ODD_STEP) {
                    joinIs(x, slot, (int) bits, -2);
                }
            }
        });
        test("4: For slots 28 and 29, bits in 0..8191 is accepted", x -> {
            for (int bits = 0; bits <= 8191; bits++) {
                joinIs(x, 28, bits, 16385 + bits);
                joinIs(x, 29, bits, 24577 + bits);
            }
        });
        test("4: For slots 28 and 29, 8192 answers -2", x -> {
            joinIs(x, 28, 8192, -2);
            joinIs(x, 29, 8192, -2);
        });
        test("4: The conditions are tested in this order: a wrong slot with wrong bits is -1, not -2", x -> {
            int[] wrongSlots = {MIN, -1, 30, MAX};
            int[] wrongBits = {MIN, -1, 8192, MAX};
            for (int slot : wrongSlots) {
                for (int bits : wrongBits) {
                    joinIs(x, slot, bits, -1);
                }
            }
        });
    }

    private static void wrongSlotsWithAnyBits(DistSlot x) {
        int[] slots = {MIN, MIN + 29, -30, -2, -1, 30, 31, 32, 61, 256, 65536, MAX - 1, MAX};
        for (int slot : slots) {
            for (int bits : EDGES) {
                joinIs(x, slot, bits, -1);
            }
            for (long bits = MIN; bits <= MAX; bits += ODD_STEP) {
                joinIs(x, slot, (int) bits, -1);
            }
        }
        for (int bits : EDGES) {
            for (int i = 0; i <= 100000; i++) {
                joinIs(x, -1 - i, bits, -1);
                joinIs(x, 30 + i, bits, -1);
            }
        }
    }

    private static void promise4Answers() {
        test("4: Otherwise the answer is base(slot) + bits", x -> {
            for (int[] row : TABLE) {
                for (int dist = row[2]; dist <= row[3]; dist++) {
                    joinIs(x, row[0], dist - row[2], dist);
                }
            }
        });
        test("4: .. at the first and the last bits of each slot", x -> {
            for (int[] row : TABLE) {
                joinIs(x, row[0], 0, row[2]);
                joinIs(x, row[0], (1 << row[1]) - 1, row[3]);
            }
        });
        test("4: A valid answer always lies in 1..32768", x -> {
            for (int[] row : TABLE) {
                for (int bits = 0; bits < 1 << row[1]; bits++) {
                    int got = x.join(row[0], bits);
                    holds("join(" + row[0] + ", " + bits + ") answered " + got, got >= 1 && got <= 32768);
                }
            }
        });
        test("4: join(0, 0) is 1", x -> joinIs(x, 0, 0, 1));
        test("4: join(29, 8191) is 32768", x -> joinIs(x, 29, 8191, 32768));
        test("4: join(4, 1) is 6", x -> joinIs(x, 4, 1, 6));
        test("4: join(4, 2) is -2", x -> joinIs(x, 4, 2, -2));
        test("4: join(30, 0) is -1", x -> joinIs(x, 30, 0, -1));
        test("4: join(-1, -1) is -1, because the slot test comes first", x -> joinIs(x, -1, -1, -1));
        test("4: Nothing changes", x -> changesNothing(x, used -> {
            for (int slot = -10; slot < 40; slot++) {
                for (int bits = -10; bits <= 8200; bits++) {
                    used.join(slot, bits);
                }
            }
        }));
    }

    private static void promise4RoundTrip() {
        test("4: slot(join(s, b)) is s for every accepted pair", x -> {
            for (int[] row : TABLE) {
                for (int bits = 0; bits < 1 << row[1]; bits++) {
                    int dist = x.join(row[0], bits);
                    due("slot(join(" + row[0] + ", " + bits + "))", x.slot(dist), row[0]);
                }
            }
        });
        test("4: join(slot(dist), extra(dist) >> 4) equals dist", x -> {
            for (int dist = 1; dist <= LAST_DISTANCE; dist++) {
                due("join(slot, extra >> 4) of " + dist, x.join(x.slot(dist), x.extra(dist) >> 4), dist);
            }
        });
        test("4: extra(dist) & 15 equals w(slot(dist))", x -> {
            for (int dist = 1; dist <= LAST_DISTANCE; dist++) {
                due("extra(" + dist + ") & 15", x.extra(dist) & 15, TABLE[x.slot(dist)][1]);
            }
        });
    }

    // ---- every method at every edge, as numbered calls

    private static final int CALLS_AN_EDGE = EDGES.length + 2;
    private static final int CALLS = EDGES.length * CALLS_AN_EDGE;

    private static int answer(DistSlot x, int call) {
        int first = EDGES[call / CALLS_AN_EDGE];
        int second = call % CALLS_AN_EDGE;
        if (second == EDGES.length) {
            return x.slot(first);
        }
        if (second == EDGES.length + 1) {
            return x.extra(first);
        }
        return x.join(first, EDGES[second]);
    }

    private static int dueAnswer(int call) {
        int first = EDGES[call / CALLS_AN_EDGE];
        int second = call % CALLS_AN_EDGE;
        if (second < EDGES.length) {
            return dueJoin(first, EDGES[second]);
        }
        for (int[] row : TABLE) {
            if (first >= row[2] && first <= row[3]) {
                return second == EDGES.length ? row[0] : (first - row[2]) * 16 + row[1];
            }
        }
        return -1;
    }

    private static int dueJoin(int slot, int bits) {
        if (slot < 0 || slot > LAST_SLOT) {
            return -1;
        }
        int last = TABLE[slot][3] - TABLE[slot][2];
        return bits < 0 || bits > last ? -2 : TABLE[slot][2] + bits;
    }

    private static int[] dueAnswers() {
        int[] all = new int[CALLS];
        for (int call = 0; call < CALLS; call++) {
            all[call] = dueAnswer(call);
        }
        return all;
    }

    private static String nameOf(int call) {
        int first = EDGES[call / CALLS_AN_EDGE];
        int second = call % CALLS_AN_EDGE;
        if (second < EDGES.length) {
            return "join(" + first + ", " + EDGES[second] + ")";
        }
        return (second == EDGES.length ? "slot(" : "extra(") + first + ")";
    }

    private static void sameAnswers(String when, DistSlot x) {
        for (int call = 0; call < CALLS; call++) {
            int got = answer(x, call);
            int want = dueAnswer(call);
            if (got != want) {
                due(nameOf(call) + " " + when, got, want);
            }
        }
    }

    /** What a call could alter is a field; a class may have fields, but none may differ after calls. */
    private static void changesNothing(DistSlot x, Consumer<DistSlot> calls) {
        String before = fieldsOf(x);
        calls.accept(x);
        holds("the fields are the same after the calls", before.equals(fieldsOf(x)));
        sameAnswers("after the calls", x);
    }

    private static String fieldsOf(DistSlot x) {
        StringBuilder text = new StringBuilder();
        for (Field f : DistSlot.class.getDeclaredFields()) {
            f.setAccessible(true);
            try {
                Object value = f.get(x);
                text.append(f.getName()).append('=').append(Arrays.deepToString(new Object[] {value}));
            } catch (IllegalAccessException e) {
                holds("field " + f.getName() + " can be read", false);
            }
        }
        return text.toString();
    }

    // ---- what the tests are told with

    private static void test(String name, Consumer<DistSlot> body) {
        sentence = name;
        wrongInTest = 0;
        tests++;
        try {
            body.accept(new DistSlot());
        } catch (EnoughTold enough) {
            System.out.println("[" + sentence + "] the rest of this test is left out");
        } catch (Throwable thrown) {
            wrong++;
            System.out.println("[" + sentence + "] threw " + thrown);
        }
    }

    // These three build their text only for a wrong answer: the long sweeps make billions of calls.

    private static void slotIs(DistSlot x, int dist, int want) {
        int got = x.slot(dist);
        if (got != want) {
            due("slot(" + dist + ")", got, want);
        }
    }

    private static void extraIs(DistSlot x, int dist, int want) {
        int got = x.extra(dist);
        if (got != want) {
            due("extra(" + dist + ")", got, want);
        }
    }

    private static void joinIs(DistSlot x, int slot, int bits, int want) {
        int got = x.join(slot, bits);
        if (got != want) {
            due("join(" + slot + ", " + bits + ")", got, want);
        }
    }

    private static void due(String call, int got, int want) {
        if (got != want) {
            tell(call + " answered " + got + ", due is " + want);
        }
    }

    private static void holds(String what, boolean held) {
        if (!held) {
            tell("does not hold: " + what);
        }
    }

    /** Ends a test after some lines, so that one broken sentence neither hides nor delays the others. */
    private static void tell(String line) {
        wrong++;
        wrongInTest++;
        System.out.println("[" + sentence + "] " + line);
        if (wrongInTest >= MOST_LINES_A_TEST) {
            throw new EnoughTold();
        }
    }

    private static final class EnoughTold extends RuntimeException {
        private static final long serialVersionUID = 1;
    }
}
