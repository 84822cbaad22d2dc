/**
 * Keeps sounds packed, without loss.
 *
 * A sample needs twelve bits, so a moment is packed into three bytes. Every array has its greatest
 * length from the start, so a code of varying length would save no memory; and as each sound has
 * just one packed form, two sounds are the same if their bytes are.
 */
public final class SoundArchive {
    public static final int BAD = -5001;
    public static final int NONE = -5002;
    public static final int DAMAGED = -5003;
    public static final int FULL = -5004;
    public static final int BUSY = -5005;

    private static final int FINE = 0;
    private static final int LEAST_SAMPLE = -2048;
    private static final int GREATEST_SAMPLE = 2047;
    private static final int MOST_MOMENTS = 96;
    private static final int SLOTS = 4;
    private static final int LEFT = 0;
    private static final int RIGHT = 1;
    private static final int MOMENT_BYTES = 3;
    // The first byte of a slot is the number of its moments, so that even a sound without moments
    // has bits that can be turned round.
    private static final int HEAD_BYTES = 1;
    private static final int SLOT_BYTES = HEAD_BYTES + MOST_MOMENTS * MOMENT_BYTES;
    private static final int ALL_BYTES = SLOTS * SLOT_BYTES;

    private final int[] leftAtHand = new int[MOST_MOMENTS];
    private final int[] rightAtHand = new int[MOST_MOMENTS];
    private int momentsAtHand;

    private final byte[] packed = new byte[ALL_BYTES];
    private final boolean[] filled = new boolean[SLOTS];
    private final boolean[] damaged = new boolean[SLOTS];
    private final int[] turnedBit = new int[SLOTS];

    public SoundArchive() {
        momentsAtHand = 0;
    }

    public int clear() {
        int before = momentsAtHand;
        momentsAtHand = 0;
        return before;
    }

    public int append(int left, int right) {
        if (!isSample(left) || !isSample(right)) {
            return BAD;
        }
        if (momentsAtHand >= MOST_MOMENTS) {
            return FULL;
        }
        addWrapped(left, right);
        return momentsAtHand;
    }

    public int tone(int kind, int a, int b, int many) {
        if (kind < 0 || kind > 3 || many < 0) {
            return BAD;
        }
        int room = MOST_MOMENTS - momentsAtHand;
        int added = many < room ? many : room;
        switch (kind) {
            case 0:
                addSlopes(a, b, added);
                break;
            case 1:
                addNoise(a, b, added);
                break;
            case 2:
                addCurve(a, b, added);
                break;
            default:
                addEcho(a, b, added);
                break;
        }
        return added;
    }

    public int get(int channel, int i) {
        if (!isChannel(channel) || i < 0 || i >= momentsAtHand) {
            return BAD;
        }
        return channel == LEFT ? leftAtHand[i] : rightAtHand[i];
    }

    public int set(int i, int left, int right) {
        if (i < 0 || i >= momentsAtHand || !isSample(left) || !isSample(right)) {
            return BAD;
        }
        leftAtHand[i] = left;
        rightAtHand[i] = right;
        return 0;
    }

    public int length() {
        return momentsAtHand;
    }

    public int cut(int from, int to) {
        if (!isRange(from, to, momentsAtHand)) {
            return BAD;
        }
        int stay = to - from;
        for (int p = 0; p < stay; p++) {
            leftAtHand[p] = leftAtHand[from + p];
            rightAtHand[p] = rightAtHand[from + p];
        }
        momentsAtHand = stay;
        return stay;
    }

    public int change(int kind) {
        switch (kind) {
            case 0:
                turnOrder();
                break;
            case 1:
                exchangeChannels();
                break;
            case 2:
                halveSamples();
                break;
            case 3:
                doubleSamples();
                break;
            default:
                return BAD;
        }
        return momentsAtHand;
    }

    public int digest() {
        int sum = 0;
        for (int p = 0; p < momentsAtHand; p++) {
            sum += (p + 1) * (leftAtHand[p] + 3 * rightAtHand[p]);
        }
        return sum;
    }

    // There is one packed form alone, so no effort can find a better one.
    public int store(int slot, int effort) {
        if (!isSlot(slot)) {
            return BAD;
        }
        int moments = momentsAtHand;
        for (int p = 0; p < moments; p++) {
            packMoment(slot, p, leftAtHand[p], rightAtHand[p]);
        }
        setMomentsIn(slot, moments);
        filled[slot] = true;
        damaged[slot] = false;
        return 0;
    }

    public int load(int slot) {
        int problem = problemOf(slot);
        if (problem != FINE) {
            return problem;
        }
        int moments = momentsIn(slot);
        unpackToHand(slot, 0, moments);
        return moments;
    }

    public int excerpt(int slot, int from, int to) {
        int problem = problemOf(slot);
        if (problem != FINE) {
            return problem;
        }
        int moments = momentsIn(slot);
        if (!isRange(from, to, moments)) {
            return BAD;
        }
        unpackToHand(slot, from, to);
        return momentsAtHand;
    }

    public int peek(int slot, int channel, int i) {
        if (!isChannel(channel)) {
            return BAD;
        }
        int problem = problemOf(slot);
        if (problem != FINE) {
            return problem;
        }
        if (i < 0 || i >= momentsIn(slot)) {
            return BAD;
        }
        return unpackedSample(slot, channel, i);
    }

    public int lengthOf(int slot) {
        int problem = problemOf(slot);
        if (problem != FINE) {
            return problem;
        }
        return momentsIn(slot);
    }

    public int peak(int slot, int channel) {
        if (!isChannel(channel)) {
            return BAD;
        }
        int problem = problemOf(slot);
        if (problem != FINE) {
            return problem;
        }
        int moments = momentsIn(slot);
        int greatest = 0;
        for (int p = 0; p < moments; p++) {
            int sample = unpackedSample(slot, channel, p);
            int distance = sample < 0 ? -sample : sample;
            if (distance > greatest) {
                greatest = distance;
            }
        }
        return greatest;
    }

    public int join(int slot, int other) {
        int problem = problemOfPair(slot, other);
        if (problem != FINE) {
            return problem;
        }
        int first = momentsIn(slot);
        int second = momentsIn(other);
        int together = first + second;
        if (together > MOST_MOMENTS) {
            return FULL;
        }
        int target = placeOf(slot, first);
        int source = placeOf(other, 0);
        int bytes = second * MOMENT_BYTES;
        for (int k = 0; k < bytes; k++) {
            packed[target + k] = packed[source + k];
        }
        setMomentsIn(slot, together);
        return together;
    }

    public int same(int slot, int other) {
        int problem = problemOfPair(slot, other);
        if (problem != FINE) {
            return problem;
        }
        int bytes = bytesIn(slot);
        int one = slot * SLOT_BYTES;
        int two = other * SLOT_BYTES;
        // The head byte is compared too, so sounds of different lengths differ at once.
        for (int k = 0; k < bytes; k++) {
            if (packed[one + k] != packed[two + k]) {
                return 0;
            }
        }
        return 1;
    }

    public int drop(int slot) {
        if (!isSlot(slot)) {
            return BAD;
        }
        if (!filled[slot]) {
            return NONE;
        }
        int answer = damaged[slot] ? 1 : 0;
        filled[slot] = false;
        damaged[slot] = false;
        return answer;
    }

    public int damage(int slot, int place) {
        if (!isSlot(slot)) {
            return BAD;
        }
        if (!filled[slot]) {
            return NONE;
        }
        if (damaged[slot]) {
            return BUSY;
        }
        int bits = bytesIn(slot) * 8;
        // The head byte keeps the divisor above 0, and without its sign bit any place gives a remainder
        // that is not below 0.
        turnedBit[slot] = (place & 0x7fffffff) % bits;
        turnBit(slot);
        damaged[slot] = true;
        return 0;
    }

    public int repair(int slot) {
        if (!isSlot(slot)) {
            return BAD;
        }
        if (!filled[slot] || !damaged[slot]) {
            return NONE;
        }
        turnBit(slot);
        damaged[slot] = false;
        return 0;
    }

    private static boolean isSample(int x) {
        return x >= LEAST_SAMPLE && x <= GREATEST_SAMPLE;
    }

    private static boolean isSlot(int slot) {
        return slot >= 0 && slot < SLOTS;
    }

    private static boolean isChannel(int channel) {
        return channel == LEFT || channel == RIGHT;
    }

    private static boolean isRange(int from, int to, int moments) {
        return from >= 0 && to <= moments && from <= to;
    }

    // A sample is what the twelve lowest bits say, the topmost of them being the sign.
    private static int wrapped(int x) {
        return (x << 20) >> 20;
    }

    private void addWrapped(int left, int right) {
        leftAtHand[momentsAtHand] = wrapped(left);
        rightAtHand[momentsAtHand] = wrapped(right);
        momentsAtHand++;
    }

    private void addSlopes(int a, int b, int added) {
        for (int i = 0; i < added; i++) {
            addWrapped(a + b * i, a - b * i);
        }
    }

    private void addNoise(int a, int b, int added) {
        int s = a;
        for (int i = 0; i < added; i++) {
            s = s * 1103515245 + 12345;
            addWrapped(s >>> 16, (s >>> 16) + b);
        }
    }

    private void addCurve(int a, int b, int added) {
        for (int i = 0; i < added; i++) {
            int sample = (a * i * i) / 16 + b;
            addWrapped(sample, sample);
        }
    }

    private void addEcho(int a, int b, int added) {
        int delay = (a & 15) + 1;
        for (int i = 0; i < added; i++) {
            int earlier = momentsAtHand - delay;
            if (earlier < 0) {
                addWrapped(b, b);
            } else {
                addWrapped(leftAtHand[earlier] + b, rightAtHand[earlier] + b);
            }
        }
    }

    private void turnOrder() {
        int half = momentsAtHand / 2;
        for (int p = 0; p < half; p++) {
            int q = momentsAtHand - 1 - p;
            int left = leftAtHand[p];
            int right = rightAtHand[p];
            leftAtHand[p] = leftAtHand[q];
            rightAtHand[p] = rightAtHand[q];
            leftAtHand[q] = left;
            rightAtHand[q] = right;
        }
    }

    private void exchangeChannels() {
        for (int p = 0; p < momentsAtHand; p++) {
            int left = leftAtHand[p];
            leftAtHand[p] = rightAtHand[p];
            rightAtHand[p] = left;
        }
    }

    private void halveSamples() {
        for (int p = 0; p < momentsAtHand; p++) {
            leftAtHand[p] = leftAtHand[p] / 2;
            rightAtHand[p] = rightAtHand[p] / 2;
        }
    }

    private void doubleSamples() {
        for (int p = 0; p < momentsAtHand; p++) {
            leftAtHand[p] = wrapped(leftAtHand[p] * 2);
            rightAtHand[p] = wrapped(rightAtHand[p] * 2);
        }
    }

    private int problemOf(int slot) {
        if (!isSlot(slot)) {
            return BAD;
        }
        if (!filled[slot]) {
            return NONE;
        }
        return damaged[slot] ? DAMAGED : FINE;
    }

    // Each test is made on both slots before the next one: an empty slot counts before a damaged one.
    private int problemOfPair(int slot, int other) {
        if (!isSlot(slot) || !isSlot(other)) {
            return BAD;
        }
        if (!filled[slot] || !filled[other]) {
            return NONE;
        }
        return damaged[slot] || damaged[other] ? DAMAGED : FINE;
    }

    private int momentsIn(int slot) {
        return packed[slot * SLOT_BYTES];
    }

    private void setMomentsIn(int slot, int moments) {
        packed[slot * SLOT_BYTES] = (byte) moments;
    }

    private int bytesIn(int slot) {
        return HEAD_BYTES + momentsIn(slot) * MOMENT_BYTES;
    }

    private static int placeOf(int slot, int p) {
        return slot * SLOT_BYTES + HEAD_BYTES + p * MOMENT_BYTES;
    }

    private void packMoment(int slot, int p, int left, int right) {
        int at = placeOf(slot, p);
        packed[at] = (byte) (left >> 4);
        packed[at + 1] = (byte) (((left & 15) << 4) | ((right >> 8) & 15));
        packed[at + 2] = (byte) right;
    }

    private int unpackedSample(int slot, int channel, int p) {
        int at = placeOf(slot, p);
        int middle = packed[at + 1];
        if (channel == LEFT) {
            return wrapped((packed[at] << 4) | ((middle >> 4) & 15));
        }
        return wrapped(((middle & 15) << 8) | (packed[at + 2] & 255));
    }

    private void unpackToHand(int slot, int from, int to) {
        int moments = to - from;
        for (int p = 0; p < moments; p++) {
            leftAtHand[p] = unpackedSample(slot, LEFT, from + p);
            rightAtHand[p] = unpackedSample(slot, RIGHT, from + p);
        }
        momentsAtHand = moments;
    }

    private void turnBit(int slot) {
        int at = slot * SLOT_BYTES + turnedBit[slot] / 8;
        packed[at] = (byte) (packed[at] ^ (1 << (turnedBit[slot] % 8)));
    }
}
