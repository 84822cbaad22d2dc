/** The boundary cases of promises 11 to 21, on the slots, a test for each. */
public final class SlotBoundaryTest {
    private static final Sentences DOC = new Sentences();

    /** Slot 0 has two moments, slot 1 is empty, slot 2 is damaged, slot 3 has no moments; one is at hand. */
    private static final String SLOTS = """
            store(3, 0) = 0
            append(1, -2) = 1
            append(-3, 4) = 2
            store(0, 0) = 0
            store(2, 0) = 0
            damage(2, 3) = 0
            cut(0, 1) = 1
            set(0, 50, 60) = 0
            """;

    /** Slot 0 has 96 moments, slot 1 has one, slot 2 has none; none is at hand. */
    private static final String SIZES = """
            tone(0, 0, 1, 96) = 96
            store(0, 0) = 0
            cut(1, 2) = 1
            store(1, 0) = 0
            clear() = 1
            store(2, 0) = 0
            """;

    public static void main(String[] args) {
        storeRefused();
        store();
        loadRefused();
        load();
        excerptRefused();
        excerptRange();
        excerpt();
        peekRefused();
        peek();
        lengthOf();
        peak();
        joinRefused();
        joinFull();
        join();
        sameRefused();
        same();
        drop();
        damageRefused();
        damageShows();
        damagePlaces();
        repair();
        DOC.end();
    }

    private static void slots(String sentence, String run) {
        DOC.test(sentence, SLOTS + run);
    }

    private static void sizes(String sentence, String run) {
        DOC.test(sentence, SIZES + run);
    }

    private static void storeRefused() {
        slots("11 store: slot is too small: BAD", """
                store(-1, 0) = BAD
                store(LOW, 0) = BAD
                """);
        slots("11 store: slot is too large: BAD", """
                store(4, 0) = BAD
                store(HIGH, 0) = BAD
                """);
        DOC.test("11 store: slot is not good: BAD, of no moments", """
                store(-1, 0) = BAD
                store(4, 0) = BAD
                """);
    }

    private static void store() {
        slots("11 store: into an empty slot", """
                store(1, 0) = 0
                slot 1: 50 60
                hand: 50 60
                """);
        slots("11 store: in place of a longer sound", """
                store(0, 0) = 0
                slot 0: 50 60
                peek(0, 0, 1) = BAD
                """);
        slots("11 store: in place of a shorter sound", """
                store(3, 0) = 0
                slot 3: 50 60
                """);
        slots("11 store: in place of a damaged sound", """
                store(2, 0) = 0
                slot 2: 50 60
                repair(2) = NONE
                drop(2) = 0
                """);
        slots("11 store: in place of a damaged sound, which may be damaged anew", """
                store(2, 0) = 0
                damage(2, 3) = 0
                lengthOf(2) = DAMAGED
                repair(2) = 0
                slot 2: 50 60
                """);
        DOC.test("11 store: in place of the same sound", """
                append(1, 2) = 1
                store(0, 0) = 0
                store(0, 0) = 0
                slot 0: 1 2
                """);
        slots("11 store: into a slot that was dropped", """
                drop(0) = 0
                store(0, 0) = 0
                slot 0: 50 60
                """);
        DOC.test("11 store: a sound of no moments fills a slot", """
                store(1, 0) = 0
                lengthOf(1) = 0
                load(1) = 0
                drop(1) = 0
                """);
        slots("11 store: a sound of no moments in place of another", """
                clear() = 1
                store(0, 0) = 0
                slot 0:
                """);
        DOC.test("11 store: a sound of 96 moments into every slot", """
                tone(1, 5, 77, 96) = 96
                store(0, 0) = 0
                store(1, 0) = 0
                store(2, 0) = 0
                store(3, 0) = 0
                same(0, 1) = 1
                same(1, 2) = 1
                same(2, 3) = 1
                lengthOf(0) = 96
                """);
        DOC.test("11 store: the least and the greatest samples are kept", """
                append(-2048, 2047) = 1
                append(2047, -2048) = 2
                append(-1, 0) = 3
                append(0, -1) = 4
                store(0, 0) = 0
                slot 0: -2048 2047, 2047 -2048, -1 0, 0 -1
                """);
        String[] efforts = {"0", "1", "-1", "100", "LOW", "HIGH"};
        for (String effort : efforts) {
            DOC.test("11 store: effort shows in no answer: " + effort, """
                    append(1, -2) = 1
                    append(-2048, 2047) = 2
                    store(0, 5) = 0
                    store(1, E) = 0
                    same(0, 1) = 1
                    slot 1: 1 -2, -2048 2047
                    peak(1, 0) = 2048
                    join(1, 0) = 4
                    damage(1, 40) = 0
                    repair(1) = 0
                    load(1) = 4
                    drop(1) = 0
                    store(-1, E) = BAD
                    """.replaceAll("\\bE\\b", effort));
        }
    }

    private static void loadRefused() {
        slots("12 load: slot is too small: BAD", """
                load(-1) = BAD
                load(LOW) = BAD
                """);
        slots("12 load: slot is too large: BAD", """
                load(4) = BAD
                load(HIGH) = BAD
                """);
        slots("12 load: it is empty: NONE", """
                load(1) = NONE
                hand: 50 60
                """);
        slots("12 load: it is empty again: NONE", """
                drop(0) = 0
                load(0) = NONE
                hand: 50 60
                """);
        slots("12 load: it is damaged: DAMAGED", """
                load(2) = DAMAGED
                hand: 50 60
                """);
    }

    private static void load() {
        slots("12 load: it is repaired", """
                repair(2) = 0
                load(2) = 2
                hand: 1 -2, -3 4
                """);
        slots("12 load: a sound of no moments", """
                load(3) = 0
                hand:
                """);
        slots("12 load: a sound longer than the one at hand", """
                load(0) = 2
                hand: 1 -2, -3 4
                """);
        DOC.test("12 load: a sound shorter than the one at hand", """
                append(1, 2) = 1
                store(0, 0) = 0
                tone(0, 0, 1, 95) = 95
                load(0) = 1
                hand: 1 2
                get(0, 1) = BAD
                append(3, 4) = 2
                hand: 1 2, 3 4
                """);
        sizes("12 load: a sound of 96 moments", """
                load(0) = 96
                get(0, 0) = 0
                get(0, 95) = 95
                get(1, 95) = -95
                digest() = -589760
                append(0, 0) = FULL
                """);
        slots("12 load: twice", """
                load(0) = 2
                load(0) = 2
                hand: 1 -2, -3 4
                """);
    }

    private static void excerptRefused() {
        slots("13 excerpt: slot is too small: BAD", """
                excerpt(-1, 0, 0) = BAD
                excerpt(LOW, 0, 0) = BAD
                """);
        slots("13 excerpt: slot is too large: BAD", """
                excerpt(4, 0, 0) = BAD
                excerpt(HIGH, 0, 0) = BAD
                """);
        slots("13 excerpt: it is empty: NONE", """
                excerpt(1, 0, 0) = NONE
                excerpt(1, 0, 1) = NONE
                hand: 50 60
                """);
        slots("13 excerpt: it is empty and from is below 0: NONE", "excerpt(1, -1, 0) = NONE");
        slots("13 excerpt: it is empty and to is too great: NONE", "excerpt(1, 0, 97) = NONE");
        slots("13 excerpt: it is empty and from is above to: NONE", "excerpt(1, 1, 0) = NONE");
        slots("13 excerpt: it is damaged: DAMAGED", """
                excerpt(2, 0, 0) = DAMAGED
                excerpt(2, 0, 2) = DAMAGED
                hand: 50 60
                """);
        slots("13 excerpt: it is damaged and from is below 0: DAMAGED", "excerpt(2, -1, 0) = DAMAGED");
        slots("13 excerpt: it is damaged and to is too great: DAMAGED", "excerpt(2, 0, 97) = DAMAGED");
        slots("13 excerpt: it is damaged and from is above to: DAMAGED", "excerpt(2, 1, 0) = DAMAGED");
    }

    private static void excerptRange() {
        slots("13 excerpt: from is below 0: BAD", """
                excerpt(0, -1, 1) = BAD
                excerpt(0, -1, 2) = BAD
                excerpt(0, LOW, 2) = BAD
                hand: 50 60
                """);
        slots("13 excerpt: to is above the number of its moments: BAD", """
                excerpt(0, 0, 3) = BAD
                excerpt(0, 2, 3) = BAD
                excerpt(0, 0, HIGH) = BAD
                hand: 50 60
                """);
        slots("13 excerpt: to is above the number of its moments: BAD, of no moments", """
                excerpt(3, 0, 1) = BAD
                hand: 50 60
                """);
        sizes("13 excerpt: to is above the number of its moments: BAD, of 96", """
                excerpt(0, 0, 97) = BAD
                excerpt(0, 96, 97) = BAD
                hand:
                """);
        slots("13 excerpt: the number of its moments, not of those at hand", """
                tone(0, 0, 0, 95) = 95
                excerpt(0, 0, 3) = BAD
                excerpt(3, 0, 1) = BAD
                length() = 96
                """);
        slots("13 excerpt: from is above to: BAD", """
                excerpt(0, 1, 0) = BAD
                excerpt(0, 2, 1) = BAD
                excerpt(0, 3, 2) = BAD
                excerpt(0, HIGH, 2) = BAD
                hand: 50 60
                """);
        slots("13 excerpt: from is above to, which is below 0: BAD", """
                excerpt(0, 0, -1) = BAD
                excerpt(0, 0, LOW) = BAD
                excerpt(0, HIGH, LOW) = BAD
                excerpt(3, 0, -1) = BAD
                hand: 50 60
                """);
        slots("13 excerpt: from and to are both out of the sound: BAD", """
                excerpt(0, -1, -1) = BAD
                excerpt(0, 3, 3) = BAD
                excerpt(0, LOW, HIGH) = BAD
                excerpt(0, HIGH, HIGH) = BAD
                excerpt(0, LOW, LOW) = BAD
                hand: 50 60
                """);
    }

    private static void excerpt() {
        slots("13 excerpt: all moments", """
                excerpt(0, 0, 2) = 2
                hand: 1 -2, -3 4
                """);
        slots("13 excerpt: from is to: none, at the start", """
                excerpt(0, 0, 0) = 0
                hand:
                """);
        slots("13 excerpt: from is to: none, inside", """
                excerpt(0, 1, 1) = 0
                hand:
                """);
        slots("13 excerpt: from is to: none, at the end", """
                excerpt(0, 2, 2) = 0
                hand:
                """);
        slots("13 excerpt: none of no moments", """
                excerpt(3, 0, 0) = 0
                hand:
                """);
        slots("13 excerpt: the first alone", """
                excerpt(0, 0, 1) = 1
                hand: 1 -2
                """);
        slots("13 excerpt: the last alone", """
                excerpt(0, 1, 2) = 1
                hand: -3 4
                """);
        sizes("13 excerpt: moment to - 1 is the last", """
                excerpt(0, 2, 5) = 3
                hand: 2 -2, 3 -3, 4 -4
                """);
        sizes("13 excerpt: all of 96", """
                excerpt(0, 0, 96) = 96
                digest() = -589760
                """);
        sizes("13 excerpt: the last of 96", """
                excerpt(0, 95, 96) = 1
                hand: 95 -95
                """);
        sizes("13 excerpt: in place of a longer sound at hand", """
                load(0) = 96
                excerpt(0, 1, 2) = 1
                hand: 1 -1
                append(7, 7) = 2
                """);
        slots("13 excerpt: it is repaired", """
                repair(2) = 0
                excerpt(2, 1, 2) = 1
                hand: -3 4
                """);
    }

    private static void peekRefused() {
        slots("14 peek: slot is too small: BAD", """
                peek(-1, 0, 0) = BAD
                peek(LOW, 0, 0) = BAD
                """);
        slots("14 peek: slot is too large: BAD", """
                peek(4, 0, 0) = BAD
                peek(HIGH, 0, 0) = BAD
                """);
        slots("14 peek: channel is too small: BAD", """
                peek(0, -1, 0) = BAD
                peek(0, LOW, 0) = BAD
                """);
        slots("14 peek: channel is too large: BAD", """
                peek(0, 2, 0) = BAD
                peek(0, HIGH, 0) = BAD
                """);
        slots("14 peek: channel is not good and it is empty: BAD", """
                peek(1, -1, 0) = BAD
                peek(1, 2, 0) = BAD
                """);
        slots("14 peek: channel is not good and it is damaged: BAD", """
                peek(2, -1, 0) = BAD
                peek(2, 2, 0) = BAD
                """);
        slots("14 peek: neither slot nor channel is good: BAD", """
                peek(4, 2, 0) = BAD
                peek(-1, -1, -1) = BAD
                """);
        slots("14 peek: it is empty: NONE", """
                peek(1, 0, 0) = NONE
                peek(1, 1, 0) = NONE
                """);
        slots("14 peek: it is empty and there is no moment i: NONE", """
                peek(1, 0, -1) = NONE
                peek(1, 1, 96) = NONE
                """);
        slots("14 peek: it is damaged: DAMAGED", """
                peek(2, 0, 0) = DAMAGED
                peek(2, 1, 1) = DAMAGED
                """);
        slots("14 peek: it is damaged and there is no moment i: DAMAGED", """
                peek(2, 0, -1) = DAMAGED
                peek(2, 1, 2) = DAMAGED
                peek(2, 1, HIGH) = DAMAGED
                """);
    }

    private static void peek() {
        slots("14 peek: there is no moment before the first: BAD", """
                peek(0, 0, -1) = BAD
                peek(0, 1, -1) = BAD
                peek(0, 0, LOW) = BAD
                peek(0, 1, LOW) = BAD
                """);
        slots("14 peek: there is no moment after the last: BAD", """
                peek(0, 0, 2) = BAD
                peek(0, 1, 2) = BAD
                peek(0, 0, HIGH) = BAD
                peek(0, 1, HIGH) = BAD
                """);
        slots("14 peek: there is no moment at all: BAD", """
                peek(3, 0, 0) = BAD
                peek(3, 1, 0) = BAD
                """);
        sizes("14 peek: there is no moment 96 in a full sound: BAD", """
                peek(0, 0, 96) = BAD
                peek(0, 1, 96) = BAD
                """);
        slots("14 peek: the moments of the slot, not those at hand", """
                tone(0, 0, 0, 95) = 95
                peek(0, 0, 2) = BAD
                peek(0, 0, 1) = -3
                """);
        slots("14 peek: the first moment", """
                peek(0, 0, 0) = 1
                peek(0, 1, 0) = -2
                """);
        slots("14 peek: the last moment", """
                peek(0, 0, 1) = -3
                peek(0, 1, 1) = 4
                """);
        sizes("14 peek: the last moment of a full sound", """
                peek(0, 0, 95) = 95
                peek(0, 1, 95) = -95
                """);
        DOC.test("14 peek: the least and the greatest sample", """
                append(-2048, 2047) = 1
                append(2047, -2048) = 2
                store(0, 0) = 0
                peek(0, 0, 0) = -2048
                peek(0, 1, 0) = 2047
                peek(0, 0, 1) = 2047
                peek(0, 1, 1) = -2048
                """);
    }

    private static void lengthOf() {
        slots("15 lengthOf: slot is too small: BAD", """
                lengthOf(-1) = BAD
                lengthOf(LOW) = BAD
                """);
        slots("15 lengthOf: slot is too large: BAD", """
                lengthOf(4) = BAD
                lengthOf(HIGH) = BAD
                """);
        slots("15 lengthOf: it is empty: NONE", "lengthOf(1) = NONE");
        slots("15 lengthOf: it is damaged: DAMAGED", "lengthOf(2) = DAMAGED");
        sizes("15 lengthOf: no moments", "lengthOf(2) = 0");
        sizes("15 lengthOf: one moment", "lengthOf(1) = 1");
        sizes("15 lengthOf: 96 moments", "lengthOf(0) = 96");
        slots("15 lengthOf: not of those at hand", """
                tone(0, 0, 0, 9) = 9
                lengthOf(0) = 2
                """);
        slots("15 lengthOf: it is repaired", """
                repair(2) = 0
                lengthOf(2) = 2
                """);
    }

    private static void peak() {
        slots("16 peak: slot is too small: BAD", """
                peak(-1, 0) = BAD
                peak(LOW, 1) = BAD
                """);
        slots("16 peak: slot is too large: BAD", """
                peak(4, 0) = BAD
                peak(HIGH, 1) = BAD
                """);
        slots("16 peak: channel is too small: BAD", """
                peak(0, -1) = BAD
                peak(0, LOW) = BAD
                """);
        slots("16 peak: channel is too large: BAD", """
                peak(0, 2) = BAD
                peak(0, HIGH) = BAD
                """);
        slots("16 peak: channel is not good and it is empty: BAD", """
                peak(1, -1) = BAD
                peak(1, 2) = BAD
                """);
        slots("16 peak: channel is not good and it is damaged: BAD", """
                peak(2, -1) = BAD
                peak(2, 2) = BAD
                """);
        slots("16 peak: it is empty: NONE", """
                peak(1, 0) = NONE
                peak(1, 1) = NONE
                """);
        slots("16 peak: it is damaged: DAMAGED", """
                peak(2, 0) = DAMAGED
                peak(2, 1) = DAMAGED
                """);
        slots("16 peak: 0 if it has no moments", """
                peak(3, 0) = 0
                peak(3, 1) = 0
                """);
        slots("16 peak: 0 if it has no moments any more", """
                clear() = 1
                store(0, 0) = 0
                peak(0, 0) = 0
                peak(0, 1) = 0
                """);
        DOC.test("16 peak: the distance of the least sample is 2048", """
                append(-2048, 2047) = 1
                append(2047, -2048) = 2
                store(0, 0) = 0
                peak(0, 0) = 2048
                peak(0, 1) = 2048
                """);
        DOC.test("16 peak: the distance of the greatest sample is 2047", """
                append(2047, -2047) = 1
                append(-2047, 2047) = 2
                store(0, 0) = 0
                peak(0, 0) = 2047
                peak(0, 1) = 2047
                """);
        DOC.test("16 peak: all samples are 0", """
                append(0, 0) = 1
                store(0, 0) = 0
                peak(0, 0) = 0
                peak(0, 1) = 0
                """);
        DOC.test("16 peak: the samples of one channel alone", """
                append(1, -900) = 1
                append(-2, 800) = 2
                store(0, 0) = 0
                peak(0, 0) = 2
                peak(0, 1) = 900
                """);
        DOC.test("16 peak: the greatest distance is in the first moment", """
                append(-9, 9) = 1
                append(8, -8) = 2
                store(0, 0) = 0
                peak(0, 0) = 9
                peak(0, 1) = 9
                """);
        sizes("16 peak: the greatest distance is in the last moment of 96", """
                peak(0, 0) = 95
                peak(0, 1) = 95
                """);
        DOC.test("16 peak: no moment of a longer sound that was there before", """
                append(1, 1) = 1
                append(900, -900) = 2
                store(0, 0) = 0
                cut(0, 1) = 1
                store(0, 0) = 0
                peak(0, 0) = 1
                peak(0, 1) = 1
                """);
    }

    private static void joinRefused() {
        slots("17 join: slot is not good: BAD", """
                join(-1, 0) = BAD
                join(4, 0) = BAD
                join(LOW, 0) = BAD
                join(HIGH, 0) = BAD
                """);
        slots("17 join: other is not good: BAD", """
                join(0, -1) = BAD
                join(0, 4) = BAD
                join(0, LOW) = BAD
                join(0, HIGH) = BAD
                """);
        slots("17 join: slot is not good and other is empty or damaged: BAD", """
                join(4, 1) = BAD
                join(4, 2) = BAD
                """);
        slots("17 join: other is not good and slot is empty or damaged: BAD", """
                join(1, -1) = BAD
                join(2, -1) = BAD
                """);
        slots("17 join: slot is empty: NONE", "join(1, 0) = NONE");
        slots("17 join: other is empty: NONE", "join(0, 1) = NONE");
        slots("17 join: both are empty: NONE", "join(1, 1) = NONE");
        slots("17 join: slot is empty and other is damaged: NONE", "join(1, 2) = NONE");
        slots("17 join: slot is damaged and other is empty: NONE", "join(2, 1) = NONE");
        slots("17 join: slot is damaged: DAMAGED", "join(2, 0) = DAMAGED");
        slots("17 join: other is damaged: DAMAGED", "join(0, 2) = DAMAGED");
        slots("17 join: both are damaged: DAMAGED", "join(2, 2) = DAMAGED");
        slots("17 join: with a damaged sound and with none to add: DAMAGED", """
                join(3, 2) = DAMAGED
                join(2, 3) = DAMAGED
                """);
    }

    private static void joinFull() {
        sizes("17 join: together they have 97 moments: FULL", """
                join(0, 1) = FULL
                join(1, 0) = FULL
                lengthOf(0) = 96
                slot 1: 1 -1
                """);
        sizes("17 join: together they have 192 moments: FULL", """
                join(0, 0) = FULL
                lengthOf(0) = 96
                """);
        DOC.test("17 join: a sound of 49 moments with itself: FULL", """
                tone(0, 0, 1, 49) = 49
                store(2, 0) = 0
                join(2, 2) = FULL
                lengthOf(2) = 49
                """);
        DOC.test("17 join: a sound of 48 moments with itself: 96", """
                tone(0, 0, 1, 48) = 48
                store(2, 0) = 0
                join(2, 2) = 96
                peek(2, 0, 47) = 47
                peek(2, 0, 48) = 0
                peek(2, 1, 95) = -47
                """);
        DOC.test("17 join: together they have just 96 moments", """
                tone(0, 0, 1, 95) = 95
                store(0, 0) = 0
                cut(94, 95) = 1
                store(1, 0) = 0
                join(0, 1) = 96
                peek(0, 0, 0) = 0
                peek(0, 0, 94) = 94
                peek(0, 0, 95) = 94
                peek(0, 1, 95) = -94
                """);
        DOC.test("17 join: together they have just 96 moments, the other way", """
                tone(0, 0, 1, 95) = 95
                store(0, 0) = 0
                cut(94, 95) = 1
                store(1, 0) = 0
                join(1, 0) = 96
                peek(1, 0, 0) = 94
                peek(1, 0, 1) = 0
                peek(1, 1, 95) = -94
                """);
        sizes("17 join: slot is damaged and they are too long: DAMAGED", """
                damage(0, 0) = 0
                join(0, 1) = DAMAGED
                join(0, 0) = DAMAGED
                """);
        sizes("17 join: other is damaged and they are too long: DAMAGED", """
                damage(1, 0) = 0
                join(0, 1) = DAMAGED
                """);
        sizes("17 join: other is empty and slot is full: NONE", "join(0, 3) = NONE");
    }

    private static void join() {
        slots("17 join: other may be slot", """
                join(0, 0) = 4
                slot 0: 1 -2, -3 4, 1 -2, -3 4
                """);
        slots("17 join: a sound of no moments with itself", """
                join(3, 3) = 0
                slot 3:
                """);
        slots("17 join: no moments are added", """
                join(0, 3) = 2
                slot 0: 1 -2, -3 4
                slot 3:
                """);
        slots("17 join: moments are added to none", """
                join(3, 0) = 2
                slot 3: 1 -2, -3 4
                slot 0: 1 -2, -3 4
                """);
        sizes("17 join: no moments are added to 96", """
                join(0, 2) = 96
                peek(0, 0, 95) = 95
                """);
        sizes("17 join: 96 moments are added to none", """
                join(2, 0) = 96
                same(2, 0) = 1
                """);
        DOC.test("17 join: itself first, then the other", """
                append(1, 2) = 1
                store(0, 0) = 0
                set(0, 3, 4) = 0
                store(1, 0) = 0
                join(0, 1) = 2
                slot 0: 1 2, 3 4
                slot 1: 3 4
                hand: 3 4
                """);
        slots("17 join: the other's sound is apart from then on", """
                join(3, 0) = 2
                drop(0) = 0
                slot 3: 1 -2, -3 4
                """);
        slots("17 join: no moment of a longer sound that was there before", """
                store(0, 0) = 0
                join(0, 0) = 2
                slot 0: 50 60, 50 60
                """);
    }

    private static void sameRefused() {
        slots("18 same: slot is not good: BAD", """
                same(-1, 0) = BAD
                same(4, 0) = BAD
                same(LOW, 0) = BAD
                same(HIGH, 0) = BAD
                """);
        slots("18 same: other is not good: BAD", """
                same(0, -1) = BAD
                same(0, 4) = BAD
                same(0, LOW) = BAD
                same(0, HIGH) = BAD
                """);
        slots("18 same: neither is good: BAD", """
                same(-1, -1) = BAD
                same(4, 4) = BAD
                """);
        slots("18 same: slot is not good and other is empty or damaged: BAD", """
                same(4, 1) = BAD
                same(4, 2) = BAD
                """);
        slots("18 same: other is not good and slot is empty or damaged: BAD", """
                same(1, -1) = BAD
                same(2, -1) = BAD
                """);
        slots("18 same: slot is empty: NONE", "same(1, 0) = NONE");
        slots("18 same: other is empty: NONE", "same(0, 1) = NONE");
        slots("18 same: both are empty: NONE", "same(1, 1) = NONE");
        slots("18 same: slot is empty and other has no moments: NONE", "same(1, 3) = NONE");
        slots("18 same: slot is empty and other is damaged: NONE", "same(1, 2) = NONE");
        slots("18 same: slot is damaged and other is empty: NONE", "same(2, 1) = NONE");
        slots("18 same: slot is damaged: DAMAGED", "same(2, 0) = DAMAGED");
        slots("18 same: other is damaged: DAMAGED", "same(0, 2) = DAMAGED");
        slots("18 same: a damaged slot and itself: DAMAGED", "same(2, 2) = DAMAGED");
    }

    private static void same() {
        slots("18 same: a slot and itself", """
                same(0, 0) = 1
                same(3, 3) = 1
                """);
        slots("18 same: two slots with the same sound", """
                load(0) = 2
                store(1, 7) = 0
                same(0, 1) = 1
                same(1, 0) = 1
                """);
        slots("18 same: a repaired slot", """
                repair(2) = 0
                same(0, 2) = 1
                same(2, 0) = 1
                """);
        slots("18 same: two sounds of no moments", """
                clear() = 1
                store(0, 0) = 0
                same(0, 3) = 1
                same(3, 0) = 1
                """);
        slots("18 same: no moments and some", """
                same(0, 3) = 0
                same(3, 0) = 0
                """);
        slots("18 same: one begins with the other", """
                load(0) = 2
                cut(0, 1) = 1
                store(1, 0) = 0
                same(0, 1) = 0
                same(1, 0) = 0
                """);
        DOC.test("18 same: one begins with the other, and the rest is 0", """
                append(0, 0) = 1
                store(0, 0) = 0
                append(0, 0) = 2
                store(1, 0) = 0
                same(0, 1) = 0
                same(1, 0) = 0
                """);
        differs("18 same: the first left sample differs", "set(0, 5, 1) = 0");
        differs("18 same: the first right sample differs", "set(0, 1, 0) = 0");
        differs("18 same: the last left sample of 96 differs", "set(95, 2, 1) = 0");
        differs("18 same: the last right sample of 96 differs", "set(95, 1, 2) = 0");
        differs("18 same: a sample differs in its sign alone", "set(50, -1, 1) = 0");
        differs("18 same: a sample differs by half the range", "set(50, 1, -2047) = 0");
        DOC.test("18 same: the samples are the same in another order", """
                append(1, 2) = 1
                append(3, 4) = 2
                store(0, 0) = 0
                change(0) = 2
                store(1, 0) = 0
                change(0) = 2
                change(1) = 2
                store(2, 0) = 0
                same(0, 1) = 0
                same(0, 2) = 0
                """);
        DOC.test("18 same: nothing is left of longer sounds that were there before", """
                append(1, 2) = 1
                append(3, 4) = 2
                store(0, 0) = 0
                set(1, 5, 6) = 0
                store(1, 0) = 0
                cut(0, 1) = 1
                store(0, 0) = 0
                store(1, 0) = 0
                same(0, 1) = 1
                """);
    }

    private static void differs(String sentence, String change) {
        DOC.test(sentence, """
                tone(0, 1, 0, 96) = 96
                store(0, 0) = 0
                store(2, 0) = 0
                """ + change + """

                store(1, 0) = 0
                same(0, 1) = 0
                same(1, 0) = 0
                same(0, 2) = 1
                """);
    }

    private static void drop() {
        slots("19 drop: slot is too small: BAD", """
                drop(-1) = BAD
                drop(LOW) = BAD
                """);
        slots("19 drop: slot is too large: BAD", """
                drop(4) = BAD
                drop(HIGH) = BAD
                """);
        slots("19 drop: it is empty: NONE", "drop(1) = NONE");
        slots("19 drop: it is empty since it was dropped: NONE", """
                drop(0) = 0
                drop(0) = NONE
                drop(2) = 1
                drop(2) = NONE
                """);
        slots("19 drop: 1 if it was damaged", "drop(2) = 1");
        slots("19 drop: 0 if it was not damaged", "drop(0) = 0");
        slots("19 drop: 0 if it was repaired", """
                repair(2) = 0
                drop(2) = 0
                """);
        slots("19 drop: 0 if a new sound is in it", """
                store(2, 0) = 0
                drop(2) = 0
                """);
        slots("19 drop: 0 if it has no moments", "drop(3) = 0");
        slots("19 drop: 1 if it has no moments and was damaged", """
                damage(3, 5) = 0
                drop(3) = 1
                """);
        slots("19 drop: the slot becomes empty, from a whole one", emptySlot("0", "0"));
        slots("19 drop: the slot becomes empty, from a damaged one", emptySlot("2", "1"));
        slots("19 drop: a sound stored after the drop of a damaged one is whole", """
                drop(2) = 1
                store(2, 0) = 0
                slot 2: 50 60
                repair(2) = NONE
                drop(2) = 0
                """);
    }

    private static String emptySlot(String slot, String answer) {
        return """
                drop(S) = A
                load(S) = NONE
                excerpt(S, 0, 0) = NONE
                peek(S, 0, 0) = NONE
                lengthOf(S) = NONE
                peak(S, 0) = NONE
                join(S, 3) = NONE
                join(3, S) = NONE
                same(S, S) = NONE
                damage(S, 0) = NONE
                repair(S) = NONE
                drop(S) = NONE
                hand: 50 60
                """.replaceAll("\\bS\\b", slot).replaceAll("\\bA\\b", answer);
    }

    private static void damageRefused() {
        slots("20 damage: slot is too small: BAD", """
                damage(-1, 0) = BAD
                damage(LOW, 0) = BAD
                """);
        slots("20 damage: slot is too large: BAD", """
                damage(4, 0) = BAD
                damage(HIGH, 0) = BAD
                """);
        slots("20 damage: it is empty: NONE", """
                damage(1, 0) = NONE
                damage(1, LOW) = NONE
                """);
        slots("20 damage: it is empty since a damaged one was dropped: NONE", """
                drop(2) = 1
                damage(2, 3) = NONE
                """);
        slots("20 damage: it is damaged: BUSY, at the same place", """
                damage(2, 3) = BUSY
                repair(2) = 0
                slot 2: 1 -2, -3 4
                """);
        slots("20 damage: it is damaged: BUSY, at another place", """
                damage(2, 4) = BUSY
                damage(2, HIGH) = BUSY
                damage(2, LOW) = BUSY
                repair(2) = 0
                slot 2: 1 -2, -3 4
                """);
    }

    private static void damageShows() {
        slots("20 damage: the slot is damaged then", """
                damage(0, 17) = 0
                load(0) = DAMAGED
                excerpt(0, 0, 1) = DAMAGED
                peek(0, 0, 0) = DAMAGED
                lengthOf(0) = DAMAGED
                peak(0, 0) = DAMAGED
                join(0, 3) = DAMAGED
                join(3, 0) = DAMAGED
                same(0, 3) = DAMAGED
                same(3, 0) = DAMAGED
                same(0, 0) = DAMAGED
                damage(0, 17) = BUSY
                drop(0) = 1
                """);
        slots("20 damage: no other slot is damaged then", """
                load(0) = 2
                store(1, 0) = 0
                damage(0, 17) = 0
                slot 1: 1 -2, -3 4
                slot 3:
                repair(3) = NONE
                """);
        DOC.test("20 damage: every slot may be damaged at once", """
                append(1, 2) = 1
                store(0, 0) = 0
                store(1, 0) = 0
                store(2, 0) = 0
                store(3, 0) = 0
                damage(0, 8) = 0
                damage(1, 9) = 0
                damage(2, 30) = 0
                damage(3, 0) = 0
                repair(1) = 0
                repair(3) = 0
                repair(0) = 0
                repair(2) = 0
                slot 0: 1 2
                slot 1: 1 2
                slot 2: 1 2
                slot 3: 1 2
                """);
        slots("20 damage: a sound of no moments", """
                damage(3, 0) = 0
                lengthOf(3) = DAMAGED
                damage(3, 1) = BUSY
                repair(3) = 0
                slot 3:
                """);
        slots("20 damage: again after a repair", """
                repair(2) = 0
                damage(2, 3) = 0
                load(2) = DAMAGED
                repair(2) = 0
                slot 2: 1 -2, -3 4
                """);
    }

    private static void damagePlaces() {
        String[] places = {"0", "1", "7", "8", "-1", "-8", "55", "56", "57", "2311", "2312", "2313", "LOW", "-2147483647",
            "HIGH", "2147483646"};
        for (String place : places) {
            slots("20 damage: any place, of two moments: " + place, damageAndRepair("0", place) + "slot 0: 1 -2, -3 4");
            slots("20 damage: any place, of no moments: " + place, damageAndRepair("3", place) + "slot 3:");
            sizes("20 damage: any place, of 96 moments: " + place, damageAndRepair("0", place) + """
                    load(0) = 96
                    digest() = -589760
                    get(0, 0) = 0
                    get(1, 95) = -95
                    """);
        }
    }

    private static String damageAndRepair(String slot, String place) {
        return """
                damage(S, P) = 0
                lengthOf(S) = DAMAGED
                damage(S, P) = BUSY
                repair(S) = 0
                """.replaceAll("\\bS\\b", slot).replaceAll("\\bP\\b", place);
    }

    private static void repair() {
        slots("21 repair: slot is too small: BAD", """
                repair(-1) = BAD
                repair(LOW) = BAD
                """);
        slots("21 repair: slot is too large: BAD", """
                repair(4) = BAD
                repair(HIGH) = BAD
                """);
        slots("21 repair: it is empty: NONE", "repair(1) = NONE");
        slots("21 repair: it is empty since a damaged one was dropped: NONE", """
                drop(2) = 1
                repair(2) = NONE
                lengthOf(2) = NONE
                """);
        slots("21 repair: it is not damaged: NONE", """
                repair(0) = NONE
                repair(3) = NONE
                slot 0: 1 -2, -3 4
                slot 3:
                """);
        slots("21 repair: it is not damaged since it was repaired: NONE", """
                repair(2) = 0
                repair(2) = NONE
                slot 2: 1 -2, -3 4
                """);
        slots("21 repair: it is not damaged since a new sound is in it: NONE", """
                store(2, 0) = 0
                repair(2) = NONE
                slot 2: 50 60
                """);
        slots("21 repair: the slot is whole then", """
                repair(2) = 0
                load(2) = 2
                excerpt(2, 0, 1) = 1
                peek(2, 1, 1) = 4
                lengthOf(2) = 2
                peak(2, 0) = 3
                same(2, 0) = 1
                join(2, 0) = 4
                damage(2, 1) = 0
                drop(2) = 1
                """);
        slots("21 repair: no other slot is repaired", """
                damage(0, 9) = 0
                repair(2) = 0
                lengthOf(0) = DAMAGED
                repair(0) = 0
                slot 0: 1 -2, -3 4
                """);
        slots("21 repair: after a join with a repaired slot", """
                repair(2) = 0
                join(2, 0) = 4
                damage(2, 100) = 0
                repair(2) = 0
                slot 2: 1 -2, -3 4, 1 -2, -3 4
                """);
        DOC.test("21 repair: the least and the greatest samples come back", """
                append(-2048, 2047) = 1
                append(2047, -2048) = 2
                store(0, 0) = 0
                """ + everyBit("0", 56) + """
                slot 0: -2048 2047, 2047 -2048
                """);
    }

    private static String everyBit(String slot, int bits) {
        StringBuilder rows = new StringBuilder();
        for (int place = 0; place < bits; place++) {
            rows.append("damage(" + slot + ", " + place + ") = 0\nrepair(" + slot + ") = 0\n");
        }
        return rows.toString();
    }
}
