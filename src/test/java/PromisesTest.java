/** The promises of the document one by one: ordinary inputs, the edges that it names, wrong inputs. */
public final class PromisesTest {
    private static final int BAD = -5001;
    private static final int NONE = -5002;
    private static final int DAMAGED = -5003;
    private static final int FULL = -5004;
    private static final int BUSY = -5005;
    private static final int LOW = Integer.MIN_VALUE;
    private static final int HIGH = Integer.MAX_VALUE;
    private static final int[] NO_SLOTS = {-1, 4, LOW, HIGH};
    private static final int[] NO_CHANNELS = {-1, 2, LOW, HIGH};
    private static final int[] NO_SAMPLES = {-2049, 2048, LOW, HIGH, 4096, -4096};

    private static int wrong = 0;

    public static void main(String[] args) {
        newObject();
        clear();
        append();
        toneSlopes();
        toneNoise();
        toneCurve();
        toneEcho();
        toneRoomAndRefusals();
        get();
        set();
        cut();
        change();
        digest();
        storeAndLoad();
        slotsAreApart();
        excerpt();
        peek();
        lengthOf();
        peak();
        join();
        same();
        drop();
        damage();
        damageAtManyPlaces();
        repair();
        orderOfPairTests();
        if (wrong != 0) {
            System.out.println(wrong + " answers are not as due");
            System.exit(1);
        }
    }

    private static void due(String what, int got, int want) {
        if (got != want) {
            wrong++;
            System.out.println(what + ": answered " + got + ", due is " + want);
        }
    }

    /** Compares the sound at hand with rows of left and right samples, in turn. */
    private static void dueAtHand(String what, SoundArchive x, int... samples) {
        due(what + ", length", x.length(), samples.length / 2);
        for (int k = 0; k < samples.length; k++) {
            due(what + ", channel " + k % 2 + " of moment " + k / 2, x.get(k % 2, k / 2), samples[k]);
        }
    }

    private static void dueInSlot(String what, SoundArchive x, int slot, int... samples) {
        due(what + ", lengthOf", x.lengthOf(slot), samples.length / 2);
        for (int k = 0; k < samples.length; k++) {
            due(what + ", channel " + k % 2 + " of moment " + k / 2, x.peek(slot, k % 2, k / 2), samples[k]);
        }
    }

    private static SoundArchive withSound(int... samples) {
        SoundArchive x = new SoundArchive();
        for (int k = 0; k < samples.length; k += 2) {
            x.append(samples[k], samples[k + 1]);
        }
        return x;
    }

    private static void newObject() {
        SoundArchive x = new SoundArchive();
        due("1: length", x.length(), 0);
        due("1: digest", x.digest(), 0);
        due("1: get", x.get(0, 0), BAD);
        for (int slot = 0; slot < 4; slot++) {
            due("1: lengthOf", x.lengthOf(slot), NONE);
            due("1: load", x.load(slot), NONE);
        }
        withSound(1, 2).store(0, 0);
        due("1: another object's slot", new SoundArchive().load(0), NONE);
    }

    private static void clear() {
        SoundArchive x = withSound(1, 2, 3, 4);
        x.store(0, 0);
        due("2: clear", x.clear(), 2);
        dueAtHand("2: cleared", x);
        due("2: clear again", x.clear(), 0);
        dueInSlot("2: slot stays", x, 0, 1, 2, 3, 4);
        due("2: append after", x.append(9, 8), 1);
        dueAtHand("2: appended after", x, 9, 8);
    }

    private static void append() {
        SoundArchive x = new SoundArchive();
        due("3: first", x.append(-2048, 2047), 1);
        due("3: second", x.append(2047, -2048), 2);
        for (int no : NO_SAMPLES) {
            due("3: left " + no, x.append(no, 0), BAD);
            due("3: right " + no, x.append(0, no), BAD);
        }
        dueAtHand("3: refused ones change nothing", x, -2048, 2047, 2047, -2048);
        for (int n = 3; n <= 96; n++) {
            due("3: number " + n, x.append(n, -n), n);
        }
        int digest = x.digest();
        due("3: full", x.append(1, 1), FULL);
        due("3: bad before full", x.append(2048, 1), BAD);
        due("3: length when full", x.length(), 96);
        due("3: last", x.get(0, 95), 96);
        due("3: digest when full", x.digest(), digest);
    }

    private static void toneSlopes() {
        SoundArchive x = withSound(7, 7);
        due("4: kind 0", x.tone(0, 10, 3, 3), 3);
        dueAtHand("4: kind 0, i starts at 0", x, 7, 7, 10, 10, 13, 7, 16, 4);
        x = new SoundArchive();
        due("4: kind 0, wrapping", x.tone(0, 2047, 1, 2), 2);
        dueAtHand("4: kind 0, wrapping", x, 2047, 2047, -2048, 2046);
        x = new SoundArchive();
        due("4: kind 0, low", x.tone(0, -2048, 1, 2), 2);
        dueAtHand("4: kind 0, low", x, -2048, -2048, -2047, 2047);
        x = new SoundArchive();
        due("4: kind 0, great numbers", x.tone(0, HIGH, HIGH, 3), 3);
        dueAtHand("4: kind 0, great numbers", x, -1, -1, -2, 0, -3, 1);
        x = new SoundArchive();
        due("4: kind 0, below", x.tone(0, LOW, 4096, 2), 2);
        dueAtHand("4: kind 0, below", x, 0, 0, 0, 0);
    }

    private static void toneNoise() {
        SoundArchive x = withSound(7, 7);
        // From 1: 1103527590 (>>> 16: 16838), then 2524885223 without sign (>>> 16: 38526).
        due("4: kind 1", x.tone(1, 1, 5, 2), 2);
        dueAtHand("4: kind 1", x, 7, 7, 454, 459, 1662, 1667);
        x = new SoundArchive();
        due("4: kind 1 from 0", x.tone(1, 0, HIGH, 1), 1);
        dueAtHand("4: kind 1 from 0", x, 0, -1);
    }

    private static void toneCurve() {
        SoundArchive x = withSound(7, 7);
        due("4: kind 2", x.tone(2, 5, 1, 5), 5);
        dueAtHand("4: kind 2", x, 7, 7, 1, 1, 1, 1, 2, 2, 3, 3, 6, 6);
        x = new SoundArchive();
        due("4: kind 2, to 0", x.tone(2, -5, 0, 5), 5);
        dueAtHand("4: kind 2, to 0", x, 0, 0, 0, 0, -1, -1, -2, -2, -5, -5);
        x = new SoundArchive();
        // a is 2^29 + 1: times 4 it wraps to -2^31 + 4, and the quotient of that is -2^27 + 1.
        due("4: kind 2, product wraps", x.tone(2, 536870913, -3, 4), 4);
        dueAtHand("4: kind 2, product wraps", x, -3, -3, -3, -3, -2, -2, -3, -3);
        x = new SoundArchive();
        due("4: kind 2, b wraps", x.tone(2, 0, 2048, 1), 1);
        dueAtHand("4: kind 2, b wraps", x, -2048, -2048);
    }

    private static void toneEcho() {
        SoundArchive x = withSound(1, 10, 2, 20);
        due("4: kind 3", x.tone(3, 1, 100, 4), 4);
        dueAtHand("4: kind 3, also of its own moments", x,
                1, 10, 2, 20, 101, 110, 102, 120, 201, 210, 202, 220);
        x = withSound(1, 10);
        due("4: kind 3, no earlier", x.tone(3, 2, -5, 4), 4);
        dueAtHand("4: kind 3, no earlier", x, 1, 10, -5, -5, -5, -5, -4, 5, -10, -10);
        x = withSound(1, 10);
        due("4: kind 3, lowest bits of a", x.tone(3, 16, 2047, 1), 1);
        dueAtHand("4: kind 3, lowest bits of a", x, 1, 10, -2048, -2039);
        x = withSound(1, 10);
        due("4: kind 3, a is -1, so d is 16", x.tone(3, -1, 3000, 16), 16);
        due("4: kind 3, before the first", x.get(0, 15), -1096);
        due("4: kind 3, the first's left", x.get(0, 16), -1095);
        due("4: kind 3, the first's right", x.get(1, 16), -1086);
    }

    private static void toneRoomAndRefusals() {
        SoundArchive x = withSound(1, 2);
        due("4: kind -1", x.tone(-1, 0, 0, 1), BAD);
        due("4: kind 4", x.tone(4, 0, 0, 1), BAD);
        due("4: many -1", x.tone(0, 0, 0, -1), BAD);
        due("4: many least", x.tone(3, 0, 0, LOW), BAD);
        due("4: none", x.tone(0, 5, 5, 0), 0);
        dueAtHand("4: nothing changed", x, 1, 2);
        due("4: all the room", x.tone(0, 0, 1, 95), 95);
        due("4: last one", x.get(0, 95), 94);
        x.cut(0, 90);
        due("4: more than room", x.tone(0, 0, 1, 7), 6);
        due("4: last of room", x.get(1, 95), -5);
        int digest = x.digest();
        for (int kind = 0; kind < 4; kind++) {
            due("4: no room, kind " + kind, x.tone(kind, 1, 1, HIGH), 0);
        }
        due("4: bad kind when full", x.tone(4, 0, 0, 1), BAD);
        due("4: digest when full", x.digest(), digest);
        for (int kind = 0; kind < 4; kind++) {
            due("4: greatest many, kind " + kind, new SoundArchive().tone(kind, 1, 1, HIGH), 96);
        }
    }

    private static void get() {
        SoundArchive x = withSound(1, 2, 3, 4);
        dueAtHand("5: get", x, 1, 2, 3, 4);
        for (int no : NO_CHANNELS) {
            due("5: channel " + no, x.get(no, 0), BAD);
        }
        for (int no : new int[] {-1, 2, 95, 96, LOW, HIGH}) {
            due("5: moment " + no, x.get(0, no), BAD);
        }
        x.tone(0, 0, 0, 96);
        due("5: moment 96 of 96", x.get(1, 96), BAD);
        due("5: moment 95 of 96", x.get(1, 95), 0);
    }

    private static void set() {
        SoundArchive x = withSound(1, 2, 3, 4);
        x.store(0, 0);
        due("6: set", x.set(1, -2048, 2047), 0);
        due("6: set first", x.set(0, 2047, -2048), 0);
        for (int no : NO_SAMPLES) {
            due("6: left " + no, x.set(0, no, 0), BAD);
            due("6: right " + no, x.set(0, 0, no), BAD);
        }
        for (int no : new int[] {-1, 2, 96, LOW, HIGH}) {
            due("6: moment " + no, x.set(no, 0, 0), BAD);
        }
        dueAtHand("6: after", x, 2047, -2048, -2048, 2047);
        dueInSlot("6: slot stays", x, 0, 1, 2, 3, 4);
    }

    private static void cut() {
        SoundArchive x = withSound(1, 2, 3, 4, 5, 6, 7, 8);
        int[][] refused = {{-1, 2}, {0, 5}, {3, 2}, {5, 5}, {LOW, HIGH}, {LOW, 0}, {0, HIGH}, {0, LOW}, {4, -1}};
        for (int[] r : refused) {
            due("8: cut " + r[0] + ", " + r[1], x.cut(r[0], r[1]), BAD);
        }
        due("7: length", x.length(), 4);
        due("8: all", x.cut(0, 4), 4);
        dueAtHand("8: all stay", x, 1, 2, 3, 4, 5, 6, 7, 8);
        due("8: middle", x.cut(1, 3), 2);
        dueAtHand("8: middle stays", x, 3, 4, 5, 6);
        due("8: none at the end", x.cut(2, 2), 0);
        dueAtHand("8: none stays", x);
        due("8: none of none", x.cut(0, 0), 0);
        due("8: beyond none", x.cut(0, 1), BAD);
    }

    private static void change() {
        SoundArchive x = withSound(1, -2, 3, -4, 2047, -2048);
        due("9: kind -1", x.change(-1), BAD);
        due("9: kind 4", x.change(4), BAD);
        dueAtHand("9: refused", x, 1, -2, 3, -4, 2047, -2048);
        due("9: kind 0", x.change(0), 3);
        dueAtHand("9: order of three", x, 2047, -2048, 3, -4, 1, -2);
        due("9: kind 1", x.change(1), 3);
        dueAtHand("9: exchanged", x, -2048, 2047, -4, 3, -2, 1);
        due("9: kind 2", x.change(2), 3);
        dueAtHand("9: halves", x, -1024, 1023, -2, 1, -1, 0);
        due("9: kind 3", x.change(3), 3);
        dueAtHand("9: doubles", x, -2048, 2046, -4, 2, -2, 0);
        due("9: kind 3 again", x.change(3), 3);
        dueAtHand("9: wrapped doubles", x, 0, -4, -8, 4, -4, 0);
        x = withSound(-1, -3, 1024, -1025);
        x.change(0);
        dueAtHand("9: order of two", x, 1024, -1025, -1, -3);
        x.change(3);
        dueAtHand("9: doubles at the edge", x, -2048, 2046, -2, -6);
        x = withSound(-1, -3);
        x.change(2);
        dueAtHand("9: halves go to 0", x, 0, -1);
        for (int kind = 0; kind < 4; kind++) {
            due("9: no moments, kind " + kind, new SoundArchive().change(kind), 0);
        }
    }

    private static void digest() {
        SoundArchive x = new SoundArchive();
        due("10: none", x.digest(), 0);
        x.append(5, 7);
        due("10: one", x.digest(), 26);
        x.append(-100, 1);
        due("10: two", x.digest(), 26 + 2 * -97);
        x.clear();
        for (int p = 0; p < 96; p++) {
            x.append(-2048, -2048);
        }
        due("10: least", x.digest(), 4656 * -8192);
        due("10: a question", x.length(), 96);
    }

    private static void storeAndLoad() {
        int[] efforts = {0, 1, 7, -1, LOW, HIGH};
        for (int effort : efforts) {
            SoundArchive x = withSound(-2048, 2047, 2047, -2048, -1, 0, 0, -1, 15, 16, -16, -17, 255, 256);
            due("11: store", x.store(3, effort), 0);
            due("11: hand stays", x.length(), 7);
            x.clear();
            due("12: load", x.load(3), 7);
            dueAtHand("12: loaded", x, -2048, 2047, 2047, -2048, -1, 0, 0, -1, 15, 16, -16, -17, 255, 256);
        }
        SoundArchive x = withSound(1, 2);
        x.store(0, 0);
        for (int no : NO_SLOTS) {
            due("11: slot " + no, x.store(no, 0), BAD);
            due("12: slot " + no, x.load(no), BAD);
        }
        due("12: empty", x.load(1), NONE);
        x.damage(0, 3);
        x.set(0, 8, 9);
        due("12: damaged", x.load(0), DAMAGED);
        dueAtHand("12: refused load", x, 8, 9);
        due("11: in place of a damaged one", x.store(0, 0), 0);
        dueInSlot("11: whole then", x, 0, 8, 9);
        due("11: nothing to repair", x.repair(0), NONE);
        x.clear();
        due("11: no moments", x.store(0, 0), 0);
        dueInSlot("11: shorter in place of longer", x, 0);
        x.append(3, 3);
        due("12: no moments", x.load(0), 0);
        dueAtHand("12: none at hand", x);
        everySampleStaysWhole();
    }

    private static void everySampleStaysWhole() {
        for (int start = -2048; start < 2048; start += 64) {
            SoundArchive x = new SoundArchive();
            x.tone(0, start, 1, 64);
            for (int p = 0; p < 64; p++) {
                x.set(p, start + p, -1 - start - p);
            }
            x.store(1, 0);
            x.clear();
            due("12: 64 moments", x.load(1), 64);
            for (int p = 0; p < 64; p++) {
                due("12: left", x.get(0, p), start + p);
                due("14: right", x.peek(1, 1, p), -1 - start - p);
            }
        }
    }

    private static void slotsAreApart() {
        SoundArchive x = new SoundArchive();
        for (int slot = 0; slot < 4; slot++) {
            x.clear();
            x.tone(1, slot, 1, 96);
            x.store(slot, 0);
        }
        x.clear();
        x.tone(0, 0, 0, 96);
        for (int slot = 0; slot < 4; slot++) {
            SoundArchive y = new SoundArchive();
            y.tone(1, slot, 1, 96);
            due("11: full slot " + slot, x.load(slot), 96);
            due("11: digest of slot " + slot, x.digest(), y.digest());
            due("11: last of slot " + slot, x.get(1, 95), y.get(1, 95));
        }
        x.change(1);
        x.change(3);
        x.cut(3, 5);
        due("11: slot 3 is kept", x.lengthOf(3), 96);
        due("11: drop of slot 2", x.drop(2), 0);
        due("11: slot 1 is kept", x.lengthOf(1), 96);
        due("11: slot 3 is kept after drop", x.lengthOf(3), 96);
    }

    private static void excerpt() {
        SoundArchive x = withSound(1, 2, 3, 4, 5, 6, 7, 8);
        x.store(2, 0);
        x.clear();
        x.append(9, 9);
        for (int no : NO_SLOTS) {
            due("13: slot " + no, x.excerpt(no, 0, 1), BAD);
        }
        due("13: empty before range", x.excerpt(0, -1, 1), NONE);
        int[][] refused = {{-1, 2}, {0, 5}, {3, 2}, {5, 5}, {LOW, HIGH}, {LOW, 0}, {0, HIGH}, {0, LOW}, {4, -1}};
        for (int[] r : refused) {
            due("13: " + r[0] + ", " + r[1], x.excerpt(2, r[0], r[1]), BAD);
        }
        x.damage(2, 9);
        due("13: damaged before range", x.excerpt(2, -1, 1), DAMAGED);
        due("13: damaged", x.excerpt(2, 0, 1), DAMAGED);
        x.repair(2);
        dueAtHand("13: refused", x, 9, 9);
        due("13: middle", x.excerpt(2, 1, 3), 2);
        dueAtHand("13: middle", x, 3, 4, 5, 6);
        due("13: all", x.excerpt(2, 0, 4), 4);
        dueAtHand("13: all", x, 1, 2, 3, 4, 5, 6, 7, 8);
        due("13: none", x.excerpt(2, 4, 4), 0);
        dueAtHand("13: none", x);
        dueInSlot("13: slot stays", x, 2, 1, 2, 3, 4, 5, 6, 7, 8);
    }

    private static void peek() {
        SoundArchive x = withSound(1, 2, 3, 4);
        x.store(0, 0);
        x.clear();
        dueInSlot("14: peek", x, 0, 1, 2, 3, 4);
        for (int no : NO_SLOTS) {
            due("14: slot " + no, x.peek(no, 0, 0), BAD);
        }
        for (int no : NO_CHANNELS) {
            due("14: channel " + no, x.peek(0, no, 0), BAD);
            due("14: channel before empty " + no, x.peek(1, no, 0), BAD);
        }
        for (int no : new int[] {-1, 2, 96, LOW, HIGH}) {
            due("14: moment " + no, x.peek(0, 0, no), BAD);
        }
        due("14: empty before moment", x.peek(1, 0, -1), NONE);
        x.damage(0, 0);
        due("14: damaged before moment", x.peek(0, 0, -1), DAMAGED);
        due("14: damaged", x.peek(0, 1, 1), DAMAGED);
        due("14: channel before damaged", x.peek(0, 2, 1), BAD);
        dueAtHand("14: a question", x);
    }

    private static void lengthOf() {
        SoundArchive x = withSound(1, 2, 3, 4);
        x.store(0, 0);
        x.clear();
        x.store(1, 0);
        x.tone(0, 0, 0, 96);
        x.store(2, 0);
        due("15: two", x.lengthOf(0), 2);
        due("15: none", x.lengthOf(1), 0);
        due("15: 96", x.lengthOf(2), 96);
        due("15: empty", x.lengthOf(3), NONE);
        for (int no : NO_SLOTS) {
            due("15: slot " + no, x.lengthOf(no), BAD);
        }
        x.damage(0, 1);
        due("15: damaged", x.lengthOf(0), DAMAGED);
        due("15: others are whole", x.lengthOf(1), 0);
    }

    private static void peak() {
        SoundArchive x = withSound(5, 2047, -9, 3, 8, -2048);
        x.store(0, 0);
        x.clear();
        x.store(1, 0);
        due("16: left, below 0", x.peak(0, 0), 9);
        due("16: right, least sample", x.peak(0, 1), 2048);
        due("16: no moments", x.peak(1, 0), 0);
        due("16: empty", x.peak(2, 1), NONE);
        for (int no : NO_SLOTS) {
            due("16: slot " + no, x.peak(no, 0), BAD);
        }
        for (int no : NO_CHANNELS) {
            due("16: channel " + no, x.peak(0, no), BAD);
            due("16: channel before empty " + no, x.peak(2, no), BAD);
        }
        x.damage(0, 1);
        due("16: damaged", x.peak(0, 0), DAMAGED);
        due("16: channel before damaged", x.peak(0, -1), BAD);
        x.append(10, 1);
        x.append(9, 1);
        x.store(0, 0);
        due("16: first is greatest", x.peak(0, 0), 10);
    }

    private static void join() {
        SoundArchive x = withSound(1, 2, 3, 4);
        x.store(0, 0);
        x.cut(1, 2);
        x.set(0, -5, -6);
        x.store(1, 0);
        due("17: join", x.join(0, 1), 3);
        dueInSlot("17: joined", x, 0, 1, 2, 3, 4, -5, -6);
        dueInSlot("17: other stays", x, 1, -5, -6);
        dueAtHand("17: hand stays", x, -5, -6);
        due("17: with itself", x.join(0, 0), 6);
        dueInSlot("17: twice", x, 0, 1, 2, 3, 4, -5, -6, 1, 2, 3, 4, -5, -6);
        x.clear();
        x.store(2, 0);
        due("17: nothing joined", x.join(1, 2), 1);
        due("17: joined to nothing", x.join(2, 1), 1);
        dueInSlot("17: joined to nothing", x, 2, -5, -6);
        x.tone(1, 3, 1, 48);
        x.store(3, 0);
        int digest = x.digest();
        due("17: 96", x.join(3, 3), 96);
        due("17: 97", x.join(3, 1), FULL);
        due("17: 97 the other way", x.join(1, 3), FULL);
        due("17: 192", x.join(3, 3), FULL);
        due("17: refused, slot 3", x.lengthOf(3), 96);
        dueInSlot("17: refused, slot 1", x, 1, -5, -6);
        x.excerpt(3, 0, 48);
        due("17: first half", x.digest(), digest);
        x.excerpt(3, 48, 96);
        due("17: second half", x.digest(), digest);
        x.damage(1, 5);
        due("17: damaged before full", x.join(3, 1), DAMAGED);
    }

    private static void same() {
        SoundArchive x = withSound(1, 2, 3, 4);
        x.store(0, 0);
        x.store(1, 9);
        due("18: same", x.same(0, 1), 1);
        due("18: itself", x.same(0, 0), 1);
        x.set(1, 3, 5);
        x.store(1, 0);
        due("18: last right differs", x.same(0, 1), 0);
        x.set(1, 3, 4);
        x.set(0, 0, 2);
        x.store(1, 0);
        due("18: first left differs", x.same(0, 1), 0);
        x.load(0);
        x.cut(0, 1);
        x.store(1, 0);
        due("18: the other is shorter", x.same(0, 1), 0);
        due("18: the other is longer", x.same(1, 0), 0);
        x.clear();
        x.store(2, 0);
        x.store(3, 0);
        due("18: no moments", x.same(2, 3), 1);
        due("18: none and one", x.same(2, 1), 0);
        x.load(0);
        x.store(2, 0);
        x.cut(0, 1);
        x.store(2, 0);
        due("18: what was there before is gone", x.same(1, 2), 1);
        dueAtHand("18: a question", x, 1, 2);
    }

    private static void drop() {
        SoundArchive x = withSound(1, 2);
        for (int no : NO_SLOTS) {
            due("19: slot " + no, x.drop(no), BAD);
        }
        due("19: empty", x.drop(0), NONE);
        x.store(0, 0);
        due("19: whole", x.drop(0), 0);
        due("19: empty then", x.lengthOf(0), NONE);
        due("19: again", x.drop(0), NONE);
        x.store(0, 0);
        x.damage(0, 7);
        due("19: damaged", x.drop(0), 1);
        due("19: empty after damage", x.load(0), NONE);
        due("19: nothing to repair", x.repair(0), NONE);
        x.store(0, 0);
        dueInSlot("19: whole when stored anew", x, 0, 1, 2);
        due("19: drop of the new one", x.drop(0), 0);
        dueAtHand("19: hand stays", x, 1, 2);
    }

    private static void damage() {
        SoundArchive x = withSound(1, 2);
        for (int no : NO_SLOTS) {
            due("20: slot " + no, x.damage(no, 0), BAD);
        }
        due("20: empty", x.damage(1, 0), NONE);
        x.store(1, 0);
        x.store(2, 0);
        due("20: whole", x.damage(1, 0), 0);
        due("20: damaged", x.damage(1, 0), BUSY);
        due("20: damaged, other place", x.damage(1, 77), BUSY);
        due("20: load", x.load(1), DAMAGED);
        dueInSlot("20: another slot", x, 2, 1, 2);
        dueAtHand("20: hand stays", x, 1, 2);
        due("20: repair", x.repair(1), 0);
        dueInSlot("20: refused damage changed nothing", x, 1, 1, 2);
    }

    private static void damageAtManyPlaces() {
        int[] edges = {LOW, LOW + 1, HIGH, HIGH - 1, -1, -8, -36, 1206428329};
        for (int n = 0; n < 60 + edges.length; n++) {
            int place = n < 60 ? n : edges[n - 60];
            SoundArchive x = withSound(-2048, 2047);
            x.store(3, 0);
            x.store(2, 0);
            x.clear();
            x.store(0, 0);
            due("20: place " + place, x.damage(3, place), 0);
            due("20: no moments, place " + place, x.damage(0, place), 0);
            due("20: lengthOf, place " + place, x.lengthOf(3), DAMAGED);
            due("21: place " + place, x.repair(3), 0);
            due("21: no moments, place " + place, x.repair(0), 0);
            dueInSlot("21: place " + place, x, 3, -2048, 2047);
            dueInSlot("21: no moments, place " + place, x, 0);
            due("21: same as before, place " + place, x.same(2, 3), 1);
        }
        SoundArchive x = new SoundArchive();
        x.tone(1, 5, 5, 96);
        x.store(0, 0);
        x.store(1, 0);
        for (int n = 0; n < 100; n++) {
            due("20: full sound", x.damage(0, n * 23 + 5), 0);
            due("21: full sound", x.repair(0), 0);
            due("21: full sound is the same", x.same(0, 1), 1);
        }
    }

    private static void repair() {
        SoundArchive x = withSound(1, 2);
        for (int no : NO_SLOTS) {
            due("21: slot " + no, x.repair(no), BAD);
        }
        due("21: empty", x.repair(0), NONE);
        x.store(0, 0);
        due("21: whole", x.repair(0), NONE);
        x.store(1, 0);
        x.damage(0, 3);
        x.damage(1, 12);
        due("21: damaged", x.repair(0), 0);
        due("21: again", x.repair(0), NONE);
        dueInSlot("21: repaired", x, 0, 1, 2);
        due("21: the other is damaged still", x.lengthOf(1), DAMAGED);
        due("21: the other", x.repair(1), 0);
        dueInSlot("21: the other", x, 1, 1, 2);
        due("21: join of repaired ones", x.join(0, 1), 2);
        due("20: once more", x.damage(0, 40), 0);
        due("21: once more", x.repair(0), 0);
        dueInSlot("21: once more", x, 0, 1, 2, 1, 2);
    }

    /** Slot 0 is whole, slot 1 is damaged, slots 2 and 3 are empty: the order of the tests shows. */
    private static void orderOfPairTests() {
        SoundArchive x = withSound(1, 2);
        x.store(0, 0);
        x.store(1, 0);
        x.damage(1, 4);
        for (int no : NO_SLOTS) {
            for (int slot = 0; slot < 3; slot++) {
                due("17: other " + no, x.join(slot, no), BAD);
                due("17: slot " + no, x.join(no, slot), BAD);
                due("18: other " + no, x.same(slot, no), BAD);
                due("18: slot " + no, x.same(no, slot), BAD);
            }
        }
        int[][] rows = {{0, 2, NONE}, {2, 0, NONE}, {1, 2, NONE}, {2, 1, NONE}, {2, 2, NONE}, {2, 3, NONE},
            {0, 1, DAMAGED}, {1, 0, DAMAGED}, {1, 1, DAMAGED}};
        for (int[] r : rows) {
            due("17: " + r[0] + ", " + r[1], x.join(r[0], r[1]), r[2]);
            due("18: " + r[0] + ", " + r[1], x.same(r[0], r[1]), r[2]);
        }
        dueInSlot("17: refused", x, 0, 1, 2);
    }
}
