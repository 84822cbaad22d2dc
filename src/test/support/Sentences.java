import java.lang.reflect.InvocationTargetException;
import java.lang.reflect.Method;
import java.util.ArrayList;
import java.util.Arrays;
import java.util.HashSet;
import java.util.List;
import java.util.Map;
import java.util.Set;
import java.util.regex.Matcher;
import java.util.regex.Pattern;

/**
 * Runs tests that are told as rows of text. A test bears the sentence of the document that it is for,
 * and is a run on a new object, with rows of three forms:
 *
 * <pre>
 * append(2048, 0) = BAD     a call, and the answer that is due
 * hand: 1 2, 3 4            the sound at hand: left and right of each moment
 * slot 2: 1 2, 3 4          the sound in slot 2
 * </pre>
 *
 * With each call, whatever it may not change (all, if it is refused or a question) is compared with
 * what it was before it, as long as the object has enough of its 512 calls left for that.
 */
final class Sentences {
    private static final Map<String, Integer> WORDS = Map.of("BAD", -5001, "NONE", -5002, "DAMAGED", -5003,
            "FULL", -5004, "BUSY", -5005, "LOW", Integer.MIN_VALUE, "HIGH", Integer.MAX_VALUE);
    private static final Set<String> HAND_CHANGING =
            Set.of("clear", "append", "tone", "set", "cut", "change", "load", "excerpt");
    private static final Set<String> SLOT_CHANGING = Set.of("store", "join", "drop", "damage", "repair");
    private static final Pattern CALL = Pattern.compile("(\\w+)\\(([^)]*)\\) = (\\S+)");
    private static final Pattern SOUND = Pattern.compile("(hand|slot (\\d)):(.*)");
    private static final int HAND = 4;
    private static final int NOTHING = -1;
    private static final int MOST_CALLS = 512;
    private static final int CALLS_TO_READ_A_PART = 200;

    private final Set<String> told = new HashSet<>();
    private int wrong = 0;

    private record Call(String method, int[] arguments, int due) {
        int mayChange() {
            if (due < -5000) {
                return NOTHING;
            }
            if (HAND_CHANGING.contains(method)) {
                return HAND;
            }
            return SLOT_CHANGING.contains(method) ? arguments[0] : NOTHING;
        }

        @Override
        public String toString() {
            return method + Arrays.toString(arguments);
        }
    }

    /** What the class may never do: a call of it threw. */
    private static final class Thrown extends RuntimeException {
        private static final long serialVersionUID = 1L;

        Thrown(Call call, Throwable cause) {
            super(call + " threw " + cause);
        }
    }

    void test(String sentence, String run) {
        if (!told.add(sentence)) {
            fault(sentence, "there are two tests of this name");
        }
        List<Call> calls = new ArrayList<>();
        for (String row : run.strip().split("\n")) {
            addCalls(calls, row.strip());
        }
        if (calls.size() > MOST_CALLS) {
            fault(sentence, "the run is too long for an object");
        }
        try {
            compareAnswers(sentence, calls);
            for (int n = 0; n + 1 + CALLS_TO_READ_A_PART <= MOST_CALLS && n < calls.size(); n++) {
                compareStates(sentence, calls.subList(0, n), calls.subList(0, n + 1));
            }
        } catch (Thrown e) {
            fault(sentence, e.getMessage());
        }
    }

    /** Ends the program, with exit code 1 if an answer was not as due. */
    void end() {
        if (told.isEmpty()) {
            fault("all", "there is no test");
        }
        System.out.println("tests told as rows: " + told.size() + ", faults: " + wrong);
        System.exit(wrong == 0 ? 0 : 1);
    }

    private void fault(String sentence, String what) {
        wrong++;
        System.out.println(sentence + " | " + what);
    }

    private static void addCalls(List<Call> calls, String row) {
        Matcher call = CALL.matcher(row);
        Matcher sound = SOUND.matcher(row);
        if (call.matches()) {
            calls.add(new Call(call.group(1), numbers(call.group(2)), number(call.group(3))));
        } else if (sound.matches()) {
            addSound(calls, sound.group(2), numbers(sound.group(3)));
        } else {
            throw new IllegalArgumentException("no row of a test: " + row);
        }
    }

    /** The slot is null if the sound at hand is meant. */
    private static void addSound(List<Call> calls, String slot, int[] samples) {
        int moments = samples.length / 2;
        int[] none = {};
        calls.add(slot == null ? new Call("length", none, moments)
                : new Call("lengthOf", numbers(slot), moments));
        for (int k = 0; k < samples.length; k++) {
            int channel = k % 2;
            int p = k / 2;
            calls.add(slot == null ? new Call("get", new int[] {channel, p}, samples[k])
                    : new Call("peek", new int[] {number(slot), channel, p}, samples[k]));
        }
    }

    private static int[] numbers(String text) {
        return Arrays.stream(text.split("[ ,]+")).filter(s -> !s.isEmpty()).mapToInt(Sentences::number).toArray();
    }

    private static int number(String text) {
        return WORDS.containsKey(text) ? WORDS.get(text) : Integer.parseInt(text);
    }

    private static int answer(SoundArchive x, Call call) {
        Class<?>[] types = new Class<?>[call.arguments.length];
        Arrays.fill(types, int.class);
        try {
            Method method = SoundArchive.class.getMethod(call.method, types);
            return (int) method.invoke(x, Arrays.stream(call.arguments).boxed().toArray());
        } catch (InvocationTargetException e) {
            throw new Thrown(call, e.getCause());
        } catch (ReflectiveOperationException e) {
            throw new IllegalArgumentException("no call: " + call, e);
        }
    }

    private void compareAnswers(String sentence, List<Call> calls) {
        SoundArchive x = new SoundArchive();
        for (Call call : calls) {
            int got = answer(x, call);
            if (got != call.due) {
                fault(sentence, call + " answered " + got + ", due is " + call.due);
            }
        }
    }

    private void compareStates(String sentence, List<Call> before, List<Call> after) {
        Call last = after.get(before.size());
        for (int part = 0; part <= HAND; part++) {
            if (part != last.mayChange() && !read(before, part).equals(read(after, part))) {
                fault(sentence, last + " changed " + (part == HAND ? "the sound at hand" : "slot " + part));
            }
        }
    }

    /** Reads a part of the state from an object of its own, as reading spends calls and mends the slot. */
    private static List<Integer> read(List<Call> calls, int part) {
        SoundArchive x = new SoundArchive();
        for (Call call : calls) {
            answer(x, call);
        }
        List<Integer> seen = new ArrayList<>();
        if (part != HAND) {
            seen.add(x.lengthOf(part));
            seen.add(x.repair(part));
        }
        int moments = part == HAND ? x.length() : x.lengthOf(part);
        seen.add(moments);
        for (int p = 0; p < moments; p++) {
            seen.add(part == HAND ? x.get(0, p) : x.peek(part, 0, p));
            seen.add(part == HAND ? x.get(1, p) : x.peek(part, 1, p));
        }
        return seen;
    }
}
