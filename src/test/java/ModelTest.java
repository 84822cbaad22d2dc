import java.util.ArrayList;
import java.util.List;
import java.util.Random;

/**
 * Runs of calls on the class and on a plain model written from the document alone. Every answer is
 * compared, and at the end of a run the sound at hand and each slot, sample by sample.
 */
public final class ModelTest {
    private static final int RUNS = 3000;
    private static final int CALLS = 250;
    private static int wrong = 0;

    /** Keeps sounds as lists of pairs, and does its arithmetic in longs. */
    private static final class Model {
        List<int[]> hand = new ArrayList<>();
        final List<List<int[]>> slots = new ArrayList<>();
        final boolean[] hurt = new boolean[4];

        Model() {
            for (int s = 0; s < 4; s++) {
                slots.add(null);
            }
        }

        static int wrap(long x) {
            return (int) (Math.floorMod(x + 2048, 4096L) - 2048);
        }

        static List<int[]> copy(List<int[]> sound, int from, int to) {
            List<int[]> made = new ArrayList<>();
            for (int[] moment : sound.subList(from, to)) {
                made.add(moment.clone());
            }
            return made;
        }

        static boolean sample(int x) {
            return x >= -2048 && x <= 2047;
        }

        static boolean noRange(int from, int to, int size) {
            return from < 0 || to > size || from > to;
        }

        int trouble(int... which) {
            for (int s : which) {
                if (s < 0 || s > 3) {
                    return -5001;
                }
            }
            for (int s : which) {
                if (slots.get(s) == null) {
                    return -5002;
                }
            }
            for (int s : which) {
                if (hurt[s]) {
                    return -5003;
                }
            }
            return 0;
        }

        int tone(int kind, int a, int b, int many) {
            if (kind < 0 || kind > 3 || many < 0) {
                return -5001;
            }
            int s = a;
            int i = 0;
            for (; i < many && hand.size() < 96; i++) {
                long left;
                long right;
                if (kind == 0) {
                    left = (long) a + (long) b * i;
                    right = (long) a - (long) b * i;
                } else if (kind == 1) {
                    s = (int) (s * 1103515245L + 12345L);
                    left = (s & 0xffffffffL) / 65536;
                    right = left + b;
                } else if (kind == 2) {
                    left = (int) ((long) a * i * i) / 16 + (long) b;
                    right = left;
                } else {
                    int back = hand.size() - (Math.floorMod(a, 16) + 1);
                    left = b + (back < 0 ? 0L : hand.get(back)[0]);
                    right = b + (back < 0 ? 0L : hand.get(back)[1]);
                }
                hand.add(new int[] {wrap(left), wrap(right)});
            }
            return i;
        }

        int change(int kind) {
            if (kind < 0 || kind > 3) {
                return -5001;
            }
            List<int[]> made = new ArrayList<>();
            for (int[] m : hand) {
                switch (kind) {
                    case 0 -> made.add(0, m);
                    case 1 -> made.add(new int[] {m[1], m[0]});
                    case 2 -> made.add(new int[] {m[0] / 2, m[1] / 2});
                    default -> made.add(new int[] {wrap(2L * m[0]), wrap(2L * m[1])});
                }
            }
            hand = made;
            return hand.size();
        }

        int digest() {
            long sum = 0;
            for (int p = 0; p < hand.size(); p++) {
                sum += (p + 1L) * (hand.get(p)[0] + 3L * hand.get(p)[1]);
            }
            return (int) sum;
        }

        int excerpt(int slot, int from, int to) {
            if (trouble(slot) != 0) {
                return trouble(slot);
            }
            if (noRange(from, to, slots.get(slot).size())) {
                return -5001;
            }
            hand = copy(slots.get(slot), from, to);
            return hand.size();
        }

        int peek(int slot, int channel, int i) {
            if (channel < 0 || channel > 1) {
                return -5001;
            }
            if (trouble(slot) != 0) {
                return trouble(slot);
            }
            return i < 0 || i >= slots.get(slot).size() ? -5001 : slots.get(slot).get(i)[channel];
        }

        int peak(int slot, int channel) {
            if (channel < 0 || channel > 1) {
                return -5001;
            }
            if (trouble(slot) != 0) {
                return trouble(slot);
            }
            return slots.get(slot).stream().mapToInt(m -> Math.abs(m[channel])).max().orElse(0);
        }

        int join(int slot, int other) {
            if (trouble(slot, other) != 0) {
                return trouble(slot, other);
            }
            List<int[]> tail = copy(slots.get(other), 0, slots.get(other).size());
            if (slots.get(slot).size() + tail.size() > 96) {
                return -5004;
            }
            slots.get(slot).addAll(tail);
            return slots.get(slot).size();
        }

        int same(int slot, int other) {
            if (trouble(slot, other) != 0) {
                return trouble(slot, other);
            }
            List<int[]> one = slots.get(slot);
            List<int[]> two = slots.get(other);
            boolean equal = one.size() == two.size();
            for (int p = 0; equal && p < one.size(); p++) {
                equal = one.get(p)[0] == two.get(p)[0] && one.get(p)[1] == two.get(p)[1];
            }
            return equal ? 1 : 0;
        }

        int put(int slot, List<int[]> sound, boolean damaged, int answer) {
            slots.set(slot, sound);
            hurt[slot] = damaged;
            return answer;
        }

        int call(int[] c) {
            int t = trouble(c[1]);
            int size = hand.size();
            switch (c[0]) {
                case 0:
                    hand = new ArrayList<>();
                    return size;
                case 1:
                    if (!sample(c[1]) || !sample(c[2])) {
                        return -5001;
                    }
                    if (size == 96) {
                        return -5004;
                    }
                    hand.add(new int[] {c[1], c[2]});
                    return size + 1;
                case 2:
                    return tone(c[1], c[2], c[3], c[4]);
                case 3:
                    return c[1] < 0 || c[1] > 1 || c[2] < 0 || c[2] >= size ? -5001 : hand.get(c[2])[c[1]];
                case 4:
                    if (c[1] < 0 || c[1] >= size || !sample(c[2]) || !sample(c[3])) {
                        return -5001;
                    }
                    hand.set(c[1], new int[] {c[2], c[3]});
                    return 0;
                case 5:
                    return size;
                case 6:
                    if (noRange(c[1], c[2], size)) {
                        return -5001;
                    }
                    hand = copy(hand, c[1], c[2]);
                    return hand.size();
                case 7:
                    return change(c[1]);
                case 8:
                    return digest();
                case 9:
                    return t == -5001 ? t : put(c[1], copy(hand, 0, size), false, 0);
                case 10:
                    return t != 0 ? t : excerpt(c[1], 0, slots.get(c[1]).size());
                case 11:
                    return excerpt(c[1], c[2], c[3]);
                case 12:
                    return peek(c[1], c[2], c[3]);
                case 13:
                    return t != 0 ? t : slots.get(c[1]).size();
                case 14:
                    return peak(c[1], c[2]);
                case 15:
                    return join(c[1], c[2]);
                case 16:
                    return same(c[1], c[2]);
                case 17:
                    return t == -5001 || t == -5002 ? t : put(c[1], null, false, t == -5003 ? 1 : 0);
                case 18:
                    return t == -5003 ? -5005 : t != 0 ? t : put(c[1], slots.get(c[1]), true, 0);
                default:
                    return t == -5001 ? t : t != -5003 ? -5002 : put(c[1], slots.get(c[1]), false, 0);
            }
        }
    }

    private static int call(SoundArchive x, int[] c) {
        switch (c[0]) {
            case 0: return x.clear();
            case 1: return x.append(c[1], c[2]);
            case 2: return x.tone(c[1], c[2], c[3], c[4]);
            case 3: return x.get(c[1], c[2]);
            case 4: return x.set(c[1], c[2], c[3]);
            case 5: return x.length();
            case 6: return x.cut(c[1], c[2]);
            case 7: return x.change(c[1]);
            case 8: return x.digest();
            case 9: return x.store(c[1], c[2]);
            case 10: return x.load(c[1]);
            case 11: return x.excerpt(c[1], c[2], c[3]);
            case 12: return x.peek(c[1], c[2], c[3]);
            case 13: return x.lengthOf(c[1]);
            case 14: return x.peak(c[1], c[2]);
            case 15: return x.join(c[1], c[2]);
            case 16: return x.same(c[1], c[2]);
            case 17: return x.drop(c[1]);
            case 18: return x.damage(c[1], c[2]);
            default: return x.repair(c[1]);
        }
    }

    /** Mostly a number that is good there, now and then one at or beyond an edge. */
    private static int number(Random r, int low, int high) {
        switch (r.nextInt(24)) {
            case 0: return low - 1;
            case 1: return high + 1;
            case 2: return low;
            case 3: return high;
            case 4: return r.nextInt(8) == 0 ? r.nextInt() : low;
            case 5: return r.nextInt(8) == 0 ? (r.nextBoolean() ? Integer.MIN_VALUE : Integer.MAX_VALUE) : high;
            default: return low + r.nextInt(high - low + 1);
        }
    }

    private static int anyNumber(Random r) {
        switch (r.nextInt(4)) {
            case 0: return r.nextInt();
            case 1: return number(r, -2048, 2047);
            default: return r.nextInt(200) - 100;
        }
    }

    private static int[] randomCall(Random r, int size) {
        int kind = r.nextInt(20);
        int last = Math.max(size - 1, 0);
        switch (kind) {
            case 0: return new int[] {r.nextInt(4) == 0 ? 0 : 5, 0};
            case 1: return new int[] {kind, number(r, -2048, 2047), number(r, -2048, 2047)};
            case 2: return new int[] {kind, number(r, 0, 3), anyNumber(r), anyNumber(r), number(r, 0, 40)};
            case 3: return new int[] {kind, number(r, 0, 1), number(r, 0, last)};
            case 4: return new int[] {kind, number(r, 0, last), number(r, -2048, 2047), number(r, -2048, 2047)};
            case 6: return new int[] {kind, number(r, 0, Math.min(size, 4)), number(r, Math.max(size - 9, 0), size)};
            case 7: return new int[] {kind, number(r, 0, 3)};
            case 9: return new int[] {kind, number(r, 0, 3), anyNumber(r)};
            case 11: return new int[] {kind, number(r, 0, 3), number(r, 0, 9), number(r, 0, 40)};
            case 12: return new int[] {kind, number(r, 0, 3), number(r, 0, 1), number(r, 0, 40)};
            case 14: return new int[] {kind, number(r, 0, 3), number(r, 0, 1)};
            case 15: case 16: return new int[] {kind, number(r, 0, 3), number(r, 0, 3)};
            case 18: return new int[] {kind, number(r, 0, 3), anyNumber(r)};
            default: return new int[] {kind, number(r, 0, 3)};
        }
    }

    private static void due(int run, String what, int got, int want) {
        if (got != want) {
            wrong++;
            if (wrong <= 20) {
                System.out.println("run " + run + ": " + what + " answered " + got + ", due is " + want);
            }
        }
    }

    private static SoundArchive replayed(List<int[]> calls) {
        SoundArchive x = new SoundArchive();
        for (int[] c : calls) {
            call(x, c);
        }
        return x;
    }

    /** Each part of the state is read from an object of its own, as an object has but 512 calls. */
    private static void compareStates(int run, List<int[]> calls, Model model) {
        SoundArchive x = replayed(calls);
        due(run, "length at the end", x.length(), model.hand.size());
        for (int p = 0; p < model.hand.size(); p++) {
            due(run, "left at the end", x.get(0, p), model.hand.get(p)[0]);
            due(run, "right at the end", x.get(1, p), model.hand.get(p)[1]);
        }
        for (int slot = 0; slot < 4; slot++) {
            x = replayed(calls);
            due(run, "lengthOf at the end", x.lengthOf(slot), model.call(new int[] {13, slot}));
            due(run, "repair at the end", x.repair(slot), model.call(new int[] {19, slot}));
            List<int[]> sound = model.slots.get(slot);
            due(run, "lengthOf when whole", x.lengthOf(slot), sound == null ? -5002 : sound.size());
            for (int p = 0; sound != null && p < sound.size(); p++) {
                due(run, "packed left", x.peek(slot, 0, p), sound.get(p)[0]);
                due(run, "packed right", x.peek(slot, 1, p), sound.get(p)[1]);
            }
        }
    }

    private static void runOnce(int run) {
        Random r = new Random(run);
        SoundArchive x = new SoundArchive();
        Model model = new Model();
        List<int[]> calls = new ArrayList<>();
        for (int n = 0; n < CALLS; n++) {
            int[] c = randomCall(r, model.hand.size());
            calls.add(c);
            due(run, "call " + n + " " + java.util.Arrays.toString(c), call(x, c), model.call(c));
            due(run, "digest after call " + n, x.digest(), model.digest());
        }
        compareStates(run, calls, model);
    }

    public static void main(String[] args) {
        for (int run = 0; run < RUNS; run++) {
            runOnce(run);
        }
        if (wrong != 0) {
            System.out.println(wrong + " answers are not as due");
            System.exit(1);
        }
    }
}
