/** The boundary cases in "What it is", in "Terms" and in promise 1, a test for each. */
public final class TermsBoundaryTest {
    private static final Sentences DOC = new Sentences();

    public static void main(String[] args) {
        lastCalls();
        samples();
        moments();
        wrapping();
        newObject();
        slotsStay();
        goodSlotsAndChannels();
        refusedCalls();
        questions();
        arithmetic();
        DOC.end();
    }

    private static void lastCalls() {
        DOC.test("What it is: at most 512 calls: the 512th append", "length() = 0\n".repeat(511) + "append(1, 2) = 1");
        DOC.test("What it is: at most 512 calls: 256 tones cleared",
                "tone(1, 9, 9, 96) = 96\nclear() = 96\n".repeat(256));
        DOC.test("What it is: at most 512 calls: 256 sounds dropped",
                "store(3, 0) = 0\ndrop(3) = 0\n".repeat(256));
        DOC.test("What it is: at most 512 calls: 254 damages repaired", """
                append(-7, 8) = 1
                store(0, 0) = 0
                """ + "damage(0, 12) = 0\nrepair(0) = 0\n".repeat(254) + """
                peek(0, 0, 0) = -7
                peek(0, 1, 0) = 8
                """);
        DOC.test("What it is: at most 512 calls: 508 refused ones", """
                tone(0, 3, 0, 96) = 96
                """ + "append(1, 1) = FULL\nload(2) = NONE\nset(96, 0, 0) = BAD\ncut(0, 97) = BAD\n".repeat(127) + """
                length() = 96
                digest() = 55872
                get(0, 95) = 3
                """);
    }

    private static void samples() {
        DOC.test("Terms: a sample is -2048 .. 2047: the least", """
                append(-2048, -2048) = 1
                set(0, -2048, -2048) = 0
                hand: -2048 -2048
                """);
        DOC.test("Terms: a sample is -2048 .. 2047: the greatest", """
                append(2047, 2047) = 1
                set(0, 2047, 2047) = 0
                hand: 2047 2047
                """);
        DOC.test("Terms: a sample is -2048 .. 2047: one below is none", """
                append(1, 1) = 1
                append(-2049, -2049) = BAD
                set(0, -2049, -2049) = BAD
                hand: 1 1
                """);
        DOC.test("Terms: a sample is -2048 .. 2047: one above is none", """
                append(1, 1) = 1
                append(2048, 2048) = BAD
                set(0, 2048, 2048) = BAD
                hand: 1 1
                """);
    }

    private static void moments() {
        DOC.test("Terms: at most 96 moments: no append beyond", """
                tone(0, 1, 0, 95) = 95
                append(2, 2) = 96
                append(3, 3) = FULL
                length() = 96
                """);
        DOC.test("Terms: at most 96 moments: no tone beyond", """
                tone(0, 1, 0, 97) = 96
                length() = 96
                """);
        DOC.test("Terms: at most 96 moments: no join beyond", """
                tone(0, 1, 0, 96) = 96
                store(0, 0) = 0
                cut(0, 1) = 1
                store(1, 0) = 0
                join(0, 1) = FULL
                lengthOf(0) = 96
                """);
        DOC.test("Terms: at most 96 moments: a sound of 96 is kept whole", """
                tone(0, -96, 2, 96) = 96
                store(3, 0) = 0
                clear() = 96
                load(3) = 96
                get(0, 0) = -96
                get(1, 0) = -96
                get(0, 95) = 94
                get(1, 95) = -286
                digest() = -2967424
                """);
    }

    private static void wrapping() {
        DOC.test("Terms: wrapping leaves a sample as it is", wrapped(-2048, -2048, -1, -1, 0, 0, 2047, 2047));
        DOC.test("Terms: wrapping, one above the greatest sample", wrapped(2048, -2048));
        DOC.test("Terms: wrapping, one below the least sample", wrapped(-2049, 2047));
        DOC.test("Terms: wrapping, about a multiple of 4096 above", wrapped(4095, -1, 4096, 0, 4097, 1, 8192, 0));
        DOC.test("Terms: wrapping, about a multiple of 4096 below", wrapped(-4095, 1, -4096, 0, -4097, -1, -8192, 0));
        DOC.test("Terms: wrapping, the second turn above", wrapped(6143, 2047, 6144, -2048));
        DOC.test("Terms: wrapping, the second turn below", wrapped(-6144, -2048, -6145, 2047));
        DOC.test("Terms: wrapping, the least int", wrapped(Integer.MIN_VALUE, 0, Integer.MIN_VALUE + 1, 1));
        DOC.test("Terms: wrapping, the greatest int", wrapped(Integer.MAX_VALUE, -1, Integer.MAX_VALUE - 1, -2));
    }

    /** Rows for numbers and what each is when wrapped, in turn, by every kind of tone that shows it. */
    private static String wrapped(int... pairs) {
        StringBuilder rows = new StringBuilder();
        for (int k = 0; k < pairs.length; k += 2) {
            String sound = "hand: " + pairs[k + 1] + " " + pairs[k + 1] + "\nclear() = 1\n";
            rows.append("tone(0, " + pairs[k] + ", 1, 1) = 1\n" + sound);
            rows.append("tone(2, 1, " + pairs[k] + ", 1) = 1\n" + sound);
            rows.append("tone(3, 0, " + pairs[k] + ", 1) = 1\n" + sound);
        }
        return rows.toString();
    }

    private static void newObject() {
        DOC.test("1 a new object: the sound at hand has no moments", """
                length() = 0
                get(0, 0) = BAD
                digest() = 0
                clear() = 0
                """);
        for (int slot = 0; slot < 4; slot++) {
            DOC.test("1 a new object: slot " + slot + " is empty", """
                    lengthOf(S) = NONE
                    load(S) = NONE
                    repair(S) = NONE
                    damage(S, 0) = NONE
                    drop(S) = NONE
                    """.replace("S", "" + slot));
        }
        DOC.test("1 a new object: the whole room is free", "tone(0, 0, 1, 96) = 96");
    }

    private static void slotsStay() {
        String[] changes = {"clear() = 2", "append(5, 6) = 3", "tone(0, 5, 6, 7) = 7", "tone(1, 5, 6, 7) = 7",
            "tone(2, 5, 6, 7) = 7", "tone(3, 0, 6, 7) = 7", "set(0, 5, 6) = 0", "cut(1, 2) = 1", "cut(0, 0) = 0",
            "change(0) = 2", "change(1) = 2", "change(2) = 2", "change(3) = 2"};
        for (String change : changes) {
            DOC.test("Terms: what is in a slot is not changed by " + change, """
                    append(1, 2) = 1
                    append(3, 4) = 2
                    store(1, 0) = 0
                    """ + change + """

                    slot 1: 1 2, 3 4
                    """);
        }
        DOC.test("Terms: what is in a slot is not changed by a load of another", """
                append(1, 2) = 1
                store(1, 0) = 0
                set(0, 5, 6) = 0
                store(2, 0) = 0
                load(1) = 1
                load(2) = 1
                slot 1: 1 2
                slot 2: 5 6
                """);
        DOC.test("Terms: what is in a slot is not changed by an excerpt of another", """
                append(1, 2) = 1
                store(1, 0) = 0
                append(5, 6) = 2
                store(2, 0) = 0
                excerpt(2, 1, 2) = 1
                slot 1: 1 2
                slot 2: 1 2, 5 6
                """);
        DOC.test("Terms: what is in a slot is not changed by changes of the sound loaded from it", """
                append(1, 2) = 1
                append(3, 4) = 2
                store(1, 0) = 0
                load(1) = 2
                set(0, 9, 9) = 0
                change(3) = 2
                cut(0, 1) = 1
                slot 1: 1 2, 3 4
                """);
        DOC.test("Terms: what is in a slot is not changed by changes of an excerpt of it", """
                append(1, 2) = 1
                append(3, 4) = 2
                store(1, 0) = 0
                excerpt(1, 1, 2) = 1
                set(0, 9, 9) = 0
                slot 1: 1 2, 3 4
                """);
        DOC.test("Terms: a damaged slot is not changed by changes of the sound at hand", """
                append(1, 2) = 1
                store(1, 0) = 0
                damage(1, 20) = 0
                set(0, 9, 9) = 0
                change(3) = 1
                clear() = 1
                lengthOf(1) = DAMAGED
                repair(1) = 0
                slot 1: 1 2
                """);
    }

    private static void goodSlotsAndChannels() {
        for (int slot = 0; slot < 4; slot++) {
            DOC.test("Terms: slot " + slot + " is good", """
                    append(1, -2) = 1
                    store(S, 0) = 0
                    load(S) = 1
                    excerpt(S, 0, 1) = 1
                    peek(S, 1, 0) = -2
                    lengthOf(S) = 1
                    peak(S, 1) = 2
                    join(S, S) = 2
                    same(S, S) = 1
                    damage(S, 0) = 0
                    repair(S) = 0
                    drop(S) = 0
                    """.replace("S", "" + slot));
        }
        for (String no : new String[] {"-1", "4", "LOW", "HIGH"}) {
            DOC.test("Terms: slot " + no + " is not good", """
                    append(1, -2) = 1
                    store(S, 0) = BAD
                    load(S) = BAD
                    excerpt(S, 0, 1) = BAD
                    peek(S, 1, 0) = BAD
                    lengthOf(S) = BAD
                    peak(S, 1) = BAD
                    join(S, S) = BAD
                    same(S, S) = BAD
                    damage(S, 0) = BAD
                    repair(S) = BAD
                    drop(S) = BAD
                    """.replaceAll("\\bS\\b", no));
        }
        DOC.test("Terms: channel 0 is left", """
                append(1, -2) = 1
                store(0, 0) = 0
                get(0, 0) = 1
                peek(0, 0, 0) = 1
                peak(0, 0) = 1
                """);
        DOC.test("Terms: channel 1 is right", """
                append(1, -2) = 1
                store(0, 0) = 0
                get(1, 0) = -2
                peek(0, 1, 0) = -2
                peak(0, 1) = 2
                """);
        for (String no : new String[] {"-1", "2", "LOW", "HIGH"}) {
            DOC.test("Terms: channel " + no + " is not good", """
                    append(1, -2) = 1
                    store(0, 0) = 0
                    get(C, 0) = BAD
                    peek(0, C, 0) = BAD
                    peak(0, C) = BAD
                    """.replaceAll("\\bC\\b", no));
        }
    }

    /** A sound at hand, a whole slot 0, a damaged slot 1, an empty slot 2, and slot 3 with no moments. */
    private static String allStates(String calls) {
        return """
                store(3, 0) = 0
                append(1, 2) = 1
                store(1, 0) = 0
                damage(1, 9) = 0
                append(3, 4) = 2
                store(0, 0) = 0
                append(5, 6) = 3
                """ + calls + """
                hand: 1 2, 3 4, 5 6
                slot 0: 1 2, 3 4
                lengthOf(1) = DAMAGED
                lengthOf(2) = NONE
                slot 3:
                repair(1) = 0
                slot 1: 1 2
                """;
    }

    private static void refusedCalls() {
        DOC.test("Terms: a refused call changes nothing: BAD, the sound at hand", allStates("""
                append(2048, 0) = BAD
                append(0, -2049) = BAD
                tone(4, 1, 1, 1) = BAD
                tone(-1, 1, 1, 1) = BAD
                tone(0, 1, 1, -1) = BAD
                get(2, 0) = BAD
                get(0, 3) = BAD
                set(3, 0, 0) = BAD
                set(0, 0, 2048) = BAD
                set(0, -2049, 0) = BAD
                cut(-1, 2) = BAD
                cut(1, 4) = BAD
                cut(2, 1) = BAD
                change(4) = BAD
                change(-1) = BAD
                """));
        DOC.test("Terms: a refused call changes nothing: BAD, the slots", allStates("""
                store(4, 0) = BAD
                store(-1, 0) = BAD
                load(4) = BAD
                excerpt(4, 0, 0) = BAD
                excerpt(0, 1, 3) = BAD
                excerpt(0, -1, 1) = BAD
                excerpt(0, 2, 1) = BAD
                peek(0, 2, 0) = BAD
                peek(0, 0, 2) = BAD
                lengthOf(4) = BAD
                peak(0, 2) = BAD
                join(0, 4) = BAD
                join(4, 0) = BAD
                same(0, -1) = BAD
                drop(4) = BAD
                damage(-1, 0) = BAD
                repair(4) = BAD
                """));
        DOC.test("Terms: a refused call changes nothing: NONE", allStates("""
                load(2) = NONE
                excerpt(2, 0, 0) = NONE
                peek(2, 0, 0) = NONE
                lengthOf(2) = NONE
                peak(2, 0) = NONE
                join(0, 2) = NONE
                join(2, 0) = NONE
                join(2, 2) = NONE
                same(2, 0) = NONE
                drop(2) = NONE
                damage(2, 5) = NONE
                repair(2) = NONE
                repair(0) = NONE
                """));
        DOC.test("Terms: a refused call changes nothing: DAMAGED", allStates("""
                load(1) = DAMAGED
                excerpt(1, 0, 0) = DAMAGED
                peek(1, 0, 0) = DAMAGED
                lengthOf(1) = DAMAGED
                peak(1, 0) = DAMAGED
                join(0, 1) = DAMAGED
                join(1, 0) = DAMAGED
                join(1, 1) = DAMAGED
                same(1, 0) = DAMAGED
                """));
        DOC.test("Terms: a refused call changes nothing: BUSY", allStates("""
                damage(1, 9) = BUSY
                damage(1, 10) = BUSY
                damage(1, LOW) = BUSY
                """));
        DOC.test("Terms: a refused call changes nothing: FULL, append", """
                tone(0, 0, 1, 96) = 96
                digest() = -589760
                append(7, 7) = FULL
                get(0, 95) = 95
                get(1, 95) = -95
                get(0, 0) = 0
                digest() = -589760
                length() = 96
                """);
        DOC.test("Terms: a refused call changes nothing: FULL, join", """
                tone(0, 0, 1, 96) = 96
                store(0, 0) = 0
                cut(0, 2) = 2
                store(1, 0) = 0
                join(0, 1) = FULL
                join(1, 0) = FULL
                join(0, 0) = FULL
                slot 1: 0 0, 1 -1
                load(0) = 96
                digest() = -589760
                """);
    }

    private static void questions() {
        DOC.test("Terms: questions change nothing: of the sound at hand", allStates("""
                get(0, 0) = 1
                get(1, 2) = 6
                length() = 3
                digest() = 106
                """));
        DOC.test("Terms: questions change nothing: of the slots", allStates("""
                peek(0, 1, 1) = 4
                lengthOf(0) = 2
                lengthOf(3) = 0
                peak(0, 0) = 3
                peak(3, 0) = 0
                same(0, 0) = 1
                same(0, 3) = 0
                """));
    }

    private static void arithmetic() {
        // Only in tone's kind 2 can this be seen: a quotient by 16 stands between the product and the wrapping.
        DOC.test("Terms: all arithmetic on ints wraps: a product above the greatest int", """
                tone(2, HIGH, 0, 4) = 4
                hand: 0 0, -1 -1, 0 0, -1 -1
                """);
        DOC.test("Terms: all arithmetic on ints wraps: a product below the least int", """
                tone(2, -2147483647, 0, 4) = 4
                hand: 0 0, 1 1, 0 0, 1 1
                """);
        DOC.test("Terms: all arithmetic on ints wraps: a sum", """
                tone(2, HIGH, HIGH, 2) = 2
                tone(0, HIGH, HIGH, 2) = 2
                tone(1, 0, LOW, 1) = 1
                hand: -1 -1, -2 -2, -1 -1, -2 0, 0 0
                """);
    }
}
