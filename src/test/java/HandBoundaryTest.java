/** The boundary cases of promises 2 to 10, on the sound at hand, a test for each. */
public final class HandBoundaryTest {
    private static final Sentences DOC = new Sentences();

    public static void main(String[] args) {
        clear();
        append();
        toneRefused();
        toneRoom();
        toneSlopes();
        toneNoise();
        toneCurve();
        toneEcho();
        get();
        set();
        length();
        cutRefused();
        cut();
        change();
        changeSamples();
        digest();
        DOC.end();
    }

    private static void clear() {
        DOC.test("2 clear: answers how many it had: none", """
                clear() = 0
                clear() = 0
                hand:
                """);
        DOC.test("2 clear: answers how many it had: one", """
                append(1, 2) = 1
                clear() = 1
                hand:
                """);
        DOC.test("2 clear: answers how many it had: 96", """
                tone(0, 1, 0, 96) = 96
                clear() = 96
                hand:
                """);
        DOC.test("2 clear: no moments then: again", """
                append(1, 2) = 1
                append(1, 2) = 2
                clear() = 2
                clear() = 0
                """);
        DOC.test("2 clear: no moments then: none to get, set or cut", """
                append(1, 2) = 1
                clear() = 1
                get(0, 0) = BAD
                get(1, 0) = BAD
                set(0, 3, 4) = BAD
                cut(0, 1) = BAD
                change(3) = 0
                digest() = 0
                """);
        DOC.test("2 clear: no moments then: the next one is the first", """
                append(1, 2) = 1
                append(3, 4) = 2
                clear() = 2
                append(5, 6) = 1
                hand: 5 6
                """);
        DOC.test("2 clear: no moments then: an echo finds none", """
                append(1, 2) = 1
                append(3, 4) = 2
                clear() = 2
                tone(3, 0, 7, 2) = 2
                hand: 7 7, 14 14
                """);
        DOC.test("2 clear: no moments then: there is room for 96", """
                tone(0, 1, 0, 96) = 96
                clear() = 96
                tone(0, 1, 0, 97) = 96
                """);
    }

    private static void append() {
        DOC.test("3 append: left is no sample, too small: BAD", """
                append(1, 2) = 1
                append(-2049, 0) = BAD
                append(-4096, 0) = BAD
                append(LOW, 0) = BAD
                hand: 1 2
                """);
        DOC.test("3 append: left is no sample, too large: BAD", """
                append(1, 2) = 1
                append(2048, 0) = BAD
                append(4096, 0) = BAD
                append(HIGH, 0) = BAD
                hand: 1 2
                """);
        DOC.test("3 append: right is no sample, too small: BAD", """
                append(1, 2) = 1
                append(0, -2049) = BAD
                append(0, -4096) = BAD
                append(0, LOW) = BAD
                hand: 1 2
                """);
        DOC.test("3 append: right is no sample, too large: BAD", """
                append(1, 2) = 1
                append(0, 2048) = BAD
                append(0, 4096) = BAD
                append(0, HIGH) = BAD
                hand: 1 2
                """);
        DOC.test("3 append: neither is a sample: BAD", """
                append(2048, -2049) = BAD
                append(LOW, HIGH) = BAD
                hand:
                """);
        DOC.test("3 append: the least and the greatest sample are taken", """
                append(-2048, 2047) = 1
                append(2047, -2048) = 2
                hand: -2048 2047, 2047 -2048
                """);
        DOC.test("3 append: there are 96: FULL", """
                tone(0, 5, 0, 96) = 96
                append(1, 2) = FULL
                append(-2048, 2047) = FULL
                get(0, 95) = 5
                get(1, 95) = 5
                get(0, 96) = BAD
                length() = 96
                """);
        DOC.test("3 append: there are 95: it is the 96th", """
                tone(0, 5, 0, 95) = 95
                append(1, 2) = 96
                get(0, 94) = 5
                get(0, 95) = 1
                get(1, 95) = 2
                """);
        DOC.test("3 append: left is no sample and there are 96: BAD", """
                tone(0, 5, 0, 96) = 96
                append(2048, 2) = BAD
                append(-2049, 2) = BAD
                """);
        DOC.test("3 append: right is no sample and there are 96: BAD", """
                tone(0, 5, 0, 96) = 96
                append(2, 2048) = BAD
                append(2, -2049) = BAD
                """);
        DOC.test("3 append: full no more when one is cut off", """
                tone(0, 5, 0, 96) = 96
                append(1, 2) = FULL
                cut(0, 95) = 95
                append(1, 2) = 96
                append(1, 2) = FULL
                """);
        DOC.test("3 append: answers how many there are then, from 1 to 96", appendsUpTo96());
    }

    private static String appendsUpTo96() {
        StringBuilder rows = new StringBuilder();
        for (int n = 1; n <= 96; n++) {
            rows.append("append(" + n + ", " + -n + ") = " + n + "\n");
        }
        return rows + """
                append(97, -97) = FULL
                get(0, 0) = 1
                get(1, 95) = -96
                digest() = -599072
                """;
    }

    private static void toneRefused() {
        DOC.test("4 tone: kind is below 0: BAD", """
                append(1, 2) = 1
                tone(-1, 1, 1, 1) = BAD
                tone(LOW, 1, 1, 1) = BAD
                hand: 1 2
                """);
        DOC.test("4 tone: kind is above 3: BAD", """
                append(1, 2) = 1
                tone(4, 1, 1, 1) = BAD
                tone(HIGH, 1, 1, 1) = BAD
                hand: 1 2
                """);
        for (int kind = 0; kind < 4; kind++) {
            DOC.test("4 tone: many is below 0: BAD, kind " + kind, """
                    append(1, 2) = 1
                    tone(K, 1, 1, -1) = BAD
                    tone(K, 1, 1, LOW) = BAD
                    hand: 1 2
                    """.replaceAll("\\bK\\b", "" + kind));
        }
        DOC.test("4 tone: kind is not 0 .. 3 and many is 0: BAD", """
                tone(-1, 1, 1, 0) = BAD
                tone(4, 1, 1, 0) = BAD
                """);
        DOC.test("4 tone: kind is not 0 .. 3 and there is no room: BAD", """
                tone(0, 5, 0, 96) = 96
                tone(-1, 1, 1, 1) = BAD
                tone(4, 1, 1, 1) = BAD
                """);
        DOC.test("4 tone: many is below 0 and there is no room: BAD", """
                tone(0, 5, 0, 96) = 96
                tone(0, 1, 1, -1) = BAD
                """);
    }

    private static void toneRoom() {
        for (int kind = 0; kind < 4; kind++) {
            roomOfKind("" + kind);
        }
    }

    private static void roomOfKind(String kind) {
        DOC.test("4 tone: many of them: none, kind " + kind, """
                append(1, 2) = 1
                tone(K, 1, 1, 0) = 0
                hand: 1 2
                """.replaceAll("\\bK\\b", kind));
        DOC.test("4 tone: many of them: one, kind " + kind, """
                append(1, 2) = 1
                tone(K, 1, 1, 1) = 1
                length() = 2
                """.replaceAll("\\bK\\b", kind));
        DOC.test("4 tone: many of them: just as many as there is room for, kind " + kind, """
                append(1, 2) = 1
                tone(K, 1, 1, 95) = 95
                length() = 96
                append(0, 0) = FULL
                """.replaceAll("\\bK\\b", kind));
        DOC.test("4 tone: as many as there is room for: one less than many, kind " + kind, """
                append(1, 2) = 1
                tone(K, 1, 1, 96) = 95
                length() = 96
                append(0, 0) = FULL
                """.replaceAll("\\bK\\b", kind));
        DOC.test("4 tone: as many as there is room for: many is the greatest int, kind " + kind, """
                tone(K, 1, 1, HIGH) = 96
                length() = 96
                """.replaceAll("\\bK\\b", kind));
        DOC.test("4 tone: as many as there is room for: many is the greatest int, after one moment, kind " + kind, """
                append(1, 2) = 1
                tone(K, 1, 1, HIGH) = 95
                length() = 96
                get(0, 0) = 1
                """.replaceAll("\\bK\\b", kind));
        DOC.test("4 tone: as many as there is room for: one, kind " + kind, """
                tone(0, 5, 0, 95) = 95
                tone(K, 1, 1, 2) = 1
                length() = 96
                """.replaceAll("\\bK\\b", kind));
        DOC.test("4 tone: as many as there is room for: none, kind " + kind, """
                tone(0, 5, 0, 96) = 96
                digest() = 93120
                tone(K, 1, 1, 1) = 0
                tone(K, 1, 1, HIGH) = 0
                tone(K, 1, 1, 0) = 0
                get(0, 95) = 5
                digest() = 93120
                """.replaceAll("\\bK\\b", kind));
    }

    private static void toneSlopes() {
        DOC.test("4 tone, kind 0: i is 0 in the first that is appended", """
                append(7, 7) = 1
                tone(0, 10, 3, 3) = 3
                tone(0, 10, 3, 1) = 1
                hand: 7 7, 10 10, 13 7, 16 4, 10 10
                """);
        DOC.test("4 tone, kind 0: left wraps above", """
                tone(0, 2046, 1, 3) = 3
                hand: 2046 2046, 2047 2045, -2048 2044
                """);
        DOC.test("4 tone, kind 0: right wraps below", """
                tone(0, -2047, 1, 3) = 3
                hand: -2047 -2047, -2046 -2048, -2045 2047
                """);
        DOC.test("4 tone, kind 0: b is below 0: left wraps below", """
                tone(0, -2047, -1, 3) = 3
                hand: -2047 -2047, -2048 -2046, 2047 -2045
                """);
        DOC.test("4 tone, kind 0: b is below 0: right wraps above", """
                tone(0, 2046, -1, 3) = 3
                hand: 2046 2046, 2045 2047, 2044 -2048
                """);
        DOC.test("4 tone, kind 0: b is a multiple of 4096", """
                tone(0, 9, 4096, 3) = 3
                tone(0, 9, LOW, 2) = 2
                hand: 9 9, 9 9, 9 9, 9 9, 9 9
                """);
        DOC.test("4 tone, kind 0: the greatest ints", """
                tone(0, HIGH, HIGH, 3) = 3
                hand: -1 -1, -2 0, -3 1
                """);
        DOC.test("4 tone, kind 0: the 96th", """
                tone(0, 1, 30, 96) = 96
                get(0, 95) = -1245
                get(1, 95) = 1247
                """);
    }

    private static void toneNoise() {
        DOC.test("4 tone, kind 1: s changes before the first, too", """
                append(7, 7) = 1
                tone(1, 1, 5, 2) = 2
                hand: 7 7, 454 459, 1662 1667
                """);
        DOC.test("4 tone, kind 1: each tone starts with s = a", """
                tone(1, 1, 5, 1) = 1
                tone(1, 1, 5, 1) = 1
                tone(1, 0, 5, 1) = 1
                hand: 454 459, 454 459, 0 5
                """);
        DOC.test("4 tone, kind 1: right wraps above", """
                tone(1, 1, 1593, 1) = 1
                tone(1, 1, 1594, 1) = 1
                hand: 454 2047, 454 -2048
                """);
        DOC.test("4 tone, kind 1: right wraps below", """
                tone(1, 1, -2502, 1) = 1
                tone(1, 1, -2503, 1) = 1
                hand: 454 -2048, 454 2047
                """);
        DOC.test("4 tone, kind 1: a is below 0", """
                tone(1, -1, 2047, 3) = 3
                hand: -455 1592, 313 -1736, 1670 -379
                """);
        DOC.test("4 tone, kind 1: a is the least int", """
                tone(1, LOW, 0, 3) = 3
                hand: 0 0, 988 988, 1796 1796
                """);
        DOC.test("4 tone, kind 1: a is the greatest int", """
                tone(1, HIGH, 0, 3) = 3
                hand: -455 -455, 313 313, 1670 1670
                """);
        DOC.test("4 tone, kind 1: b is the greatest or the least int", """
                tone(1, 1, HIGH, 1) = 1
                tone(1, 1, LOW, 1) = 1
                hand: 454 453, 454 454
                """);
    }

    private static void toneCurve() {
        DOC.test("4 tone, kind 2: i is 0 in the first that is appended", """
                append(7, 8) = 1
                tone(2, 32, 1, 3) = 3
                tone(2, 32, 1, 1) = 1
                hand: 7 8, 1 1, 3 3, 9 9, 1 1
                """);
        DOC.test("4 tone, kind 2: whole quotient", """
                tone(2, 1, 0, 6) = 6
                hand: 0 0, 0 0, 0 0, 0 0, 1 1, 1 1
                """);
        DOC.test("4 tone, kind 2: the quotient goes to 0", """
                tone(2, -1, 0, 6) = 6
                hand: 0 0, 0 0, 0 0, 0 0, -1 -1, -1 -1
                """);
        DOC.test("4 tone, kind 2: b is added to the quotient", """
                tone(2, 15, 1, 2) = 2
                tone(2, -15, -1, 2) = 2
                tone(2, -8, 8, 2) = 2
                hand: 1 1, 1 1, -1 -1, -1 -1, 8 8, 8 8
                """);
        DOC.test("4 tone, kind 2: wraps above", """
                tone(2, 16, 2046, 3) = 3
                hand: 2046 2046, 2047 2047, -2046 -2046
                """);
        DOC.test("4 tone, kind 2: wraps below", """
                tone(2, -16, -2047, 3) = 3
                hand: -2047 -2047, -2048 -2048, 2045 2045
                """);
        DOC.test("4 tone, kind 2: the product wraps before it is divided", """
                tone(2, 536870913, -3, 4) = 4
                hand: -3 -3, -3 -3, -2 -2, -3 -3
                """);
        DOC.test("4 tone, kind 2: a is the least int", """
                tone(2, LOW, 3, 4) = 4
                hand: 3 3, 3 3, 3 3, 3 3
                """);
        DOC.test("4 tone, kind 2: a is the greatest int", """
                tone(2, HIGH, 3, 4) = 4
                hand: 3 3, 2 2, 3 3, 2 2
                """);
        DOC.test("4 tone, kind 2: the 96th", """
                tone(2, 3, 0, 96) = 96
                get(0, 95) = 1692
                get(1, 95) = 1692
                """);
    }

    private static void toneEcho() {
        String[][] delays = {{"0", "1"}, {"1", "2"}, {"14", "15"}, {"15", "16"}, {"16", "1"}, {"31", "16"},
            {"-1", "16"}, {"-16", "1"}, {"LOW", "1"}, {"HIGH", "16"}};
        for (String[] row : delays) {
            int d = Integer.parseInt(row[1]);
            DOC.test("4 tone, kind 3: d is a & 15, plus 1: a is " + row[0], firstEcho(row[0], d));
        }
        DOC.test("4 tone, kind 3: no moment p - d in a new sound: both b", """
                tone(3, 15, 9, 2) = 2
                hand: 9 9, 9 9
                """);
        DOC.test("4 tone, kind 3: no moment p - d: both b, wrapped", """
                tone(3, 1, 2048, 2) = 2
                tone(3, 15, -2049, 1) = 1
                hand: -2048 -2048, -2048 -2048, 2047 2047
                """);
        DOC.test("4 tone, kind 3: p is the number in the sound, not i", """
                append(1, 10) = 1
                append(2, 20) = 2
                tone(3, 1, 100, 1) = 1
                tone(3, 1, 100, 1) = 1
                hand: 1 10, 2 20, 101 110, 102 120
                """);
        DOC.test("4 tone, kind 3: moment p - d may be one that it appended", """
                append(1, 10) = 1
                tone(3, 0, 1, 3) = 3
                hand: 1 10, 2 11, 3 12, 4 13
                """);
        DOC.test("4 tone, kind 3: wraps above", """
                append(2047, 2046) = 1
                tone(3, 0, 1, 2) = 2
                hand: 2047 2046, -2048 2047, -2047 -2048
                """);
        DOC.test("4 tone, kind 3: wraps below", """
                append(-2047, -2048) = 1
                tone(3, 0, -1, 2) = 2
                hand: -2047 -2048, -2048 2047, 2047 2046
                """);
        DOC.test("4 tone, kind 3: b is the greatest or the least int", """
                append(5, -5) = 1
                tone(3, 0, HIGH, 1) = 1
                tone(3, 1, LOW, 1) = 1
                hand: 5 -5, 4 -6, 5 -5
                """);
        DOC.test("4 tone, kind 3: no moment p - d though there was one before a cut", """
                append(1, 10) = 1
                append(2, 20) = 2
                cut(1, 2) = 1
                tone(3, 1, 7, 1) = 1
                hand: 2 20, 7 7
                """);
    }

    /** One moment at the start: the d-th after it is the first whose echo it is. */
    private static String firstEcho(String a, int d) {
        int many = d + 1;
        StringBuilder rows = new StringBuilder("append(100, 200) = 1\ntone(3, " + a + ", 5, " + many + ") = " + many + "\n");
        for (int p = 1; p < d; p++) {
            rows.append("get(0, " + p + ") = 5\nget(1, " + p + ") = 5\n");
        }
        rows.append("get(0, " + d + ") = 105\nget(1, " + d + ") = 205\n");
        int next = d == 1 ? 110 : 10;
        rows.append("get(0, " + many + ") = " + next + "\n");
        return rows.toString();
    }

    private static void get() {
        DOC.test("5 get: channel is too small: BAD", """
                append(1, 2) = 1
                get(-1, 0) = BAD
                get(LOW, 0) = BAD
                """);
        DOC.test("5 get: channel is too large: BAD", """
                append(1, 2) = 1
                get(2, 0) = BAD
                get(HIGH, 0) = BAD
                """);
        DOC.test("5 get: there is no moment before the first: BAD", """
                append(1, 2) = 1
                get(0, -1) = BAD
                get(1, -1) = BAD
                get(0, LOW) = BAD
                get(1, LOW) = BAD
                """);
        DOC.test("5 get: there is no moment after the last: BAD", """
                append(1, 2) = 1
                append(3, 4) = 2
                get(0, 2) = BAD
                get(1, 2) = BAD
                get(0, HIGH) = BAD
                get(1, HIGH) = BAD
                """);
        DOC.test("5 get: there is no moment at all: BAD", """
                get(0, 0) = BAD
                get(1, 0) = BAD
                """);
        DOC.test("5 get: there is no moment 96 in a full sound: BAD", """
                tone(0, 5, 0, 96) = 96
                get(0, 96) = BAD
                get(1, 96) = BAD
                """);
        DOC.test("5 get: there is no moment i any more: BAD", """
                append(1, 2) = 1
                append(3, 4) = 2
                cut(0, 1) = 1
                get(0, 1) = BAD
                get(1, 1) = BAD
                """);
        DOC.test("5 get: neither the channel nor the moment is good: BAD", """
                append(1, 2) = 1
                get(2, 1) = BAD
                get(-1, -1) = BAD
                """);
        DOC.test("5 get: 0 is the first", """
                append(1, 2) = 1
                append(3, 4) = 2
                get(0, 0) = 1
                get(1, 0) = 2
                """);
        DOC.test("5 get: 95 is the last of a full sound", """
                tone(0, 5, 1, 96) = 96
                get(0, 95) = 100
                get(1, 95) = -90
                """);
    }

    private static void set() {
        DOC.test("6 set: there is no moment before the first: BAD", """
                append(1, 2) = 1
                set(-1, 0, 0) = BAD
                set(LOW, 0, 0) = BAD
                hand: 1 2
                """);
        DOC.test("6 set: there is no moment after the last: BAD", """
                append(1, 2) = 1
                set(1, 0, 0) = BAD
                set(95, 0, 0) = BAD
                set(HIGH, 0, 0) = BAD
                hand: 1 2
                """);
        DOC.test("6 set: there is no moment at all: BAD", """
                set(0, 0, 0) = BAD
                hand:
                """);
        DOC.test("6 set: there is no moment 96 in a full sound: BAD", """
                tone(0, 5, 0, 96) = 96
                set(96, 0, 0) = BAD
                length() = 96
                """);
        DOC.test("6 set: left is no sample, too small: BAD", """
                append(1, 2) = 1
                set(0, -2049, 0) = BAD
                set(0, LOW, 0) = BAD
                hand: 1 2
                """);
        DOC.test("6 set: left is no sample, too large: BAD", """
                append(1, 2) = 1
                set(0, 2048, 0) = BAD
                set(0, HIGH, 0) = BAD
                hand: 1 2
                """);
        DOC.test("6 set: right is no sample, too small: BAD", """
                append(1, 2) = 1
                set(0, 0, -2049) = BAD
                set(0, 0, LOW) = BAD
                hand: 1 2
                """);
        DOC.test("6 set: right is no sample, too large: BAD", """
                append(1, 2) = 1
                set(0, 0, 2048) = BAD
                set(0, 0, HIGH) = BAD
                hand: 1 2
                """);
        DOC.test("6 set: the least and the greatest sample are taken", """
                append(1, 2) = 1
                set(0, -2048, 2047) = 0
                hand: -2048 2047
                set(0, 2047, -2048) = 0
                hand: 2047 -2048
                """);
        DOC.test("6 set: the first moment alone", """
                append(1, 2) = 1
                append(3, 4) = 2
                append(5, 6) = 3
                set(0, 7, 8) = 0
                hand: 7 8, 3 4, 5 6
                """);
        DOC.test("6 set: the last moment alone", """
                append(1, 2) = 1
                append(3, 4) = 2
                append(5, 6) = 3
                set(2, 7, 8) = 0
                hand: 1 2, 3 4, 7 8
                """);
        DOC.test("6 set: the last moment of a full sound", """
                tone(0, 5, 0, 96) = 96
                set(95, 7, 8) = 0
                get(0, 94) = 5
                get(0, 95) = 7
                get(1, 95) = 8
                length() = 96
                """);
    }

    private static void length() {
        DOC.test("7 length: none", "length() = 0");
        DOC.test("7 length: one", """
                append(1, 2) = 1
                length() = 1
                """);
        DOC.test("7 length: 96", """
                tone(0, 5, 0, 95) = 95
                length() = 95
                append(0, 0) = 96
                length() = 96
                append(0, 0) = FULL
                length() = 96
                """);
        DOC.test("7 length: none again", """
                append(1, 2) = 1
                cut(1, 1) = 0
                length() = 0
                """);
    }

    private static void cutRefused() {
        DOC.test("8 cut: from is below 0: BAD", """
                append(1, 2) = 1
                append(3, 4) = 2
                cut(-1, 1) = BAD
                cut(-1, 2) = BAD
                cut(LOW, 2) = BAD
                cut(LOW, 0) = BAD
                hand: 1 2, 3 4
                """);
        DOC.test("8 cut: to is above their number: BAD", """
                append(1, 2) = 1
                append(3, 4) = 2
                cut(0, 3) = BAD
                cut(2, 3) = BAD
                cut(0, 96) = BAD
                cut(0, HIGH) = BAD
                hand: 1 2, 3 4
                """);
        DOC.test("8 cut: to is above their number: BAD, of no moments", """
                cut(0, 1) = BAD
                hand:
                """);
        DOC.test("8 cut: to is above their number: BAD, of 96", """
                tone(0, 5, 0, 96) = 96
                cut(0, 97) = BAD
                length() = 96
                """);
        DOC.test("8 cut: from is above to: BAD", """
                append(1, 2) = 1
                append(3, 4) = 2
                cut(1, 0) = BAD
                cut(2, 1) = BAD
                cut(3, 2) = BAD
                cut(HIGH, 2) = BAD
                hand: 1 2, 3 4
                """);
        DOC.test("8 cut: from is above to, which is below 0: BAD", """
                append(1, 2) = 1
                cut(0, -1) = BAD
                cut(0, LOW) = BAD
                cut(HIGH, LOW) = BAD
                hand: 1 2
                """);
        DOC.test("8 cut: from and to are both out of the sound: BAD", """
                append(1, 2) = 1
                cut(2, 2) = BAD
                cut(-1, -1) = BAD
                cut(HIGH, HIGH) = BAD
                cut(LOW, LOW) = BAD
                cut(LOW, HIGH) = BAD
                hand: 1 2
                """);
    }

    private static void cut() {
        DOC.test("8 cut: all stay", """
                append(1, 2) = 1
                append(3, 4) = 2
                cut(0, 2) = 2
                hand: 1 2, 3 4
                """);
        DOC.test("8 cut: from is to: none stays, at the start", """
                append(1, 2) = 1
                append(3, 4) = 2
                cut(0, 0) = 0
                hand:
                """);
        DOC.test("8 cut: from is to: none stays, inside", """
                append(1, 2) = 1
                append(3, 4) = 2
                cut(1, 1) = 0
                hand:
                """);
        DOC.test("8 cut: from is to: none stays, at the end", """
                append(1, 2) = 1
                append(3, 4) = 2
                cut(2, 2) = 0
                hand:
                """);
        DOC.test("8 cut: none of none", """
                cut(0, 0) = 0
                hand:
                """);
        DOC.test("8 cut: the first alone stays", """
                append(1, 2) = 1
                append(3, 4) = 2
                append(5, 6) = 3
                cut(0, 1) = 1
                hand: 1 2
                """);
        DOC.test("8 cut: the last alone stays", """
                append(1, 2) = 1
                append(3, 4) = 2
                append(5, 6) = 3
                cut(2, 3) = 1
                hand: 5 6
                """);
        DOC.test("8 cut: moment to - 1 is the last that stays", """
                append(1, 2) = 1
                append(3, 4) = 2
                append(5, 6) = 3
                append(7, 8) = 4
                cut(1, 3) = 2
                hand: 3 4, 5 6
                """);
        DOC.test("8 cut: all but the first of 96", """
                tone(0, 0, 1, 96) = 96
                cut(1, 96) = 95
                get(0, 0) = 1
                get(1, 94) = -95
                get(0, 95) = BAD
                """);
        DOC.test("8 cut: all of 96", """
                tone(0, 0, 1, 96) = 96
                cut(0, 96) = 96
                digest() = -589760
                """);
    }

    private static void change() {
        DOC.test("9 change: kind is below 0: BAD", """
                append(1, 2) = 1
                append(3, 4) = 2
                change(-1) = BAD
                change(LOW) = BAD
                hand: 1 2, 3 4
                """);
        DOC.test("9 change: kind is above 3: BAD", """
                append(1, 2) = 1
                append(3, 4) = 2
                change(4) = BAD
                change(HIGH) = BAD
                hand: 1 2, 3 4
                """);
        DOC.test("9 change: kind is not 0 .. 3: BAD, of no moments", """
                change(-1) = BAD
                change(4) = BAD
                """);
        for (int kind = 0; kind < 4; kind++) {
            DOC.test("9 change: of no moments, kind " + kind, "change(" + kind + ") = 0\nhand:");
        }
        DOC.test("9 change, kind 0: one moment", """
                append(1, 2) = 1
                change(0) = 1
                hand: 1 2
                """);
        DOC.test("9 change, kind 0: an even number of moments", """
                append(1, 2) = 1
                append(3, 4) = 2
                change(0) = 2
                hand: 3 4, 1 2
                """);
        DOC.test("9 change, kind 0: an odd number of moments", """
                append(1, 2) = 1
                append(3, 4) = 2
                append(5, 6) = 3
                change(0) = 3
                hand: 5 6, 3 4, 1 2
                """);
        DOC.test("9 change, kind 0: 96 moments", """
                tone(0, 0, 1, 96) = 96
                change(0) = 96
                get(0, 0) = 95
                get(1, 0) = -95
                get(0, 47) = 48
                get(0, 48) = 47
                get(1, 94) = -1
                get(0, 95) = 0
                """);
        DOC.test("9 change, kind 0: 95 moments", """
                tone(0, 0, 1, 95) = 95
                change(0) = 95
                get(0, 0) = 94
                get(0, 47) = 47
                get(1, 93) = -1
                get(0, 94) = 0
                """);
        DOC.test("9 change, kind 1: one moment", """
                append(-2048, 2047) = 1
                change(1) = 1
                hand: 2047 -2048
                """);
        DOC.test("9 change, kind 1: the first and the last of 96", """
                tone(0, 3, 1, 96) = 96
                set(0, 1, 2) = 0
                change(1) = 96
                get(0, 0) = 2
                get(1, 0) = 1
                get(0, 95) = -92
                get(1, 95) = 98
                """);
        DOC.test("9 change, kind 2: the first and the last of 96", """
                tone(0, 4, 2, 96) = 96
                change(2) = 96
                get(0, 0) = 2
                get(1, 0) = 2
                get(0, 95) = 97
                get(1, 95) = -93
                """);
        DOC.test("9 change, kind 3: the first and the last of 96", """
                tone(0, 4, 2, 96) = 96
                change(3) = 96
                get(0, 0) = 8
                get(1, 0) = 8
                get(0, 95) = 388
                get(1, 95) = -372
                """);
    }

    private static void changeSamples() {
        DOC.test("9 change, kind 2: whole quotient, to 0, above 0", """
                append(0, 1) = 1
                append(2, 3) = 2
                change(2) = 2
                hand: 0 0, 1 1
                """);
        DOC.test("9 change, kind 2: whole quotient, to 0, below 0", """
                append(-1, -2) = 1
                append(-3, -1) = 2
                append(-4, -5) = 3
                change(2) = 3
                hand: 0 -1, -1 0, -2 -2
                """);
        DOC.test("9 change, kind 2: the least and the greatest sample", """
                append(-2048, 2047) = 1
                append(2047, -2047) = 2
                change(2) = 2
                hand: -1024 1023, 1023 -1023
                """);
        DOC.test("9 change, kind 3: the greatest that does not wrap", """
                append(1023, 1023) = 1
                change(3) = 1
                hand: 2046 2046
                """);
        DOC.test("9 change, kind 3: the least that does not wrap", """
                append(-1024, -1024) = 1
                change(3) = 1
                hand: -2048 -2048
                """);
        DOC.test("9 change, kind 3: the wrapped double above", """
                append(1024, 1025) = 1
                append(1025, 1024) = 2
                append(2047, 2047) = 3
                change(3) = 3
                hand: -2048 -2046, -2046 -2048, -2 -2
                """);
        DOC.test("9 change, kind 3: the wrapped double below", """
                append(-1025, -1026) = 1
                append(-1026, -1025) = 2
                append(-2048, -2048) = 3
                change(3) = 3
                hand: 2046 2044, 2044 2046, 0 0
                """);
    }

    private static void digest() {
        DOC.test("10 digest: no moments", "digest() = 0");
        DOC.test("10 digest: the first counts once", """
                append(5, 7) = 1
                digest() = 26
                """);
        DOC.test("10 digest: below 0", """
                append(-5, -7) = 1
                append(0, -1) = 2
                digest() = -32
                """);
        DOC.test("10 digest: the last of 96", """
                tone(0, 0, 0, 96) = 96
                set(95, 1, 0) = 0
                digest() = 96
                set(95, 0, 1) = 0
                digest() = 288
                """);
        DOC.test("10 digest: no moment that was cut off", """
                append(5, 7) = 1
                append(100, 100) = 2
                cut(0, 1) = 1
                digest() = 26
                """);
        DOC.test("10 digest: the least that there is", """
                tone(0, -2048, 0, 96) = 96
                digest() = -38141952
                """);
        DOC.test("10 digest: the greatest that there is", """
                tone(0, 2047, 0, 96) = 96
                digest() = 38123328
                """);
    }
}
