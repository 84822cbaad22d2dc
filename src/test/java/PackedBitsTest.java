import java.lang.reflect.Field;
import java.util.BitSet;

/** Promises 20 and 21 in what no answer shows: one bit is turned round, the place says which. */
public final class PackedBitsTest {
    private static final int[] MOMENTS = {0, 1, 7, 96};
    private static int wrong = 0;

    private static void due(String what, int got, int want) {
        if (got != want) {
            wrong++;
            System.out.println(what + ": " + got + ", due is " + want);
        }
    }

    private static BitSet bits(SoundArchive x) throws ReflectiveOperationException {
        Field packed = SoundArchive.class.getDeclaredField("packed");
        packed.setAccessible(true);
        return BitSet.valueOf((byte[]) packed.get(x));
    }

    private static SoundArchive withSlot(int slot, int moments) {
        SoundArchive x = new SoundArchive();
        x.tone(1, 17, 3, moments);
        x.store(slot, 0);
        return x;
    }

    private static BitSet turned(BitSet before, BitSet after) {
        BitSet differ = (BitSet) before.clone();
        differ.xor(after);
        return differ;
    }

    private static void everyPlace(int slot, int moments) throws ReflectiveOperationException {
        BitSet all = new BitSet();
        int bits = 8 * (1 + 3 * moments);
        for (int place = 0; place < bits; place++) {
            SoundArchive x = withSlot(slot, moments);
            BitSet before = bits(x);
            x.damage(slot, place);
            BitSet differ = turned(before, bits(x));
            due("bits turned at place " + place, differ.cardinality(), 1);
            all.or(differ);
            x.damage(slot, place + 1);
            due("bits turned by a refused damage", turned(before, bits(x)).cardinality(), 1);
            x.repair(slot);
            due("bits turned after repair", turned(before, bits(x)).cardinality(), 0);
        }
        due("bits that places reach in slot " + slot + " with " + moments, all.cardinality(), bits);
    }

    public static void main(String[] args) throws ReflectiveOperationException {
        for (int slot = 0; slot < 4; slot++) {
            for (int moments : MOMENTS) {
                everyPlace(slot, moments);
            }
        }
        if (wrong != 0) {
            System.exit(1);
        }
    }
}
