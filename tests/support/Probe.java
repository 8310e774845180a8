import java.lang.reflect.InvocationTargetException;
import java.lang.reflect.Method;
import java.lang.reflect.Modifier;
import java.nio.charset.StandardCharsets;
import java.util.ArrayList;
import java.util.Arrays;
import java.util.Comparator;
import java.util.List;
import java.util.NoSuchElementException;
import java.util.function.Consumer;
import java.util.function.Supplier;
import java.util.function.ToIntFunction;

/** What the tests share: the check of an answer, texts told to an object, and all that can be asked. */
abstract class Probe {
    static final int NONE = FrameHeirs.NONE;
    static final int LEAST = Integer.MIN_VALUE;
    static final int MOST = Integer.MAX_VALUE;
    /** What deed() below answers for its two exceptions. */
    static final int INDEX = -100;
    static final int NO_ELEMENT = -101;
    /** An object may have 512 calls; the rest is left for the run that is asked about. */
    private static final int QUESTIONS_EACH = 300;

    private static int asked = 0;
    private static int wrong = 0;

    Probe() {
    }

    /** Runs every test of a class, a static method without arguments each, and ends with 1 if an answer was not due. */
    static void runAll(Class<?> tests) {
        Method[] methods = tests.getDeclaredMethods();
        Arrays.sort(methods, Comparator.comparing(Method::getName));
        int ran = 0;
        for (Method method : methods) {
            if (isTest(method)) {
                runOne(method);
                ran++;
            }
        }
        System.out.println(tests.getName() + ": " + ran + " tests, " + asked + " answers, " + wrong + " not as due");
        if (wrong != 0 || ran == 0) {
            System.exit(1);
        }
    }

    private static boolean isTest(Method method) {
        return Modifier.isStatic(method.getModifiers()) && method.getParameterCount() == 0
            && method.getReturnType() == void.class && !method.isSynthetic();
    }

    private static void runOne(Method method) {
        int before = asked;
        try {
            method.setAccessible(true);
            method.invoke(null);
        } catch (InvocationTargetException | IllegalAccessException e) {
            fail(method.getName() + " threw " + (e.getCause() == null ? e : e.getCause()));
        }
        if (asked == before) {
            fail(method.getName() + " asks nothing");
        }
    }

    private static void fail(String what) {
        wrong++;
        System.out.println(what);
    }

    static void due(int want, int got) {
        asked++;
        if (got != want) {
            fail(caller() + ": answered " + got + ", due is " + want);
        }
    }

    static void due(int promise, String call, int got, int want) {
        asked++;
        if (got != want) {
            fail("promise " + promise + ": " + call + " answered " + got + ", due is " + want);
        }
    }

    /** The line of the test that asked. */
    private static String caller() {
        return StackWalker.getInstance().walk(frames -> frames.filter(frame -> !frame.getClassName().startsWith("Probe"))
            .findFirst().map(StackWalker.StackFrame::toString).orElse("?"));
    }

    static int bits(float value) {
        return Float.floatToIntBits(value);
    }

    static int region(int place, int order) {
        return 4 * place + order;
    }

    /** A name as named() takes it. */
    static int packed(String name) {
        int packed = 0;
        for (int i = 0; i < 6; i++) {
            packed = packed * 32 + (i < name.length() ? name.charAt(i) - 'a' + 1 : 0);
        }
        return packed;
    }

    /** Feeds twenty of the bytes, blanks behind their end. */
    static int feedRow(FrameHeirs x, byte[] bytes, int from) {
        int[] five = new int[5];
        for (int i = 0; i < 20; i++) {
            five[i / 4] = five[i / 4] << 8 | (from + i < bytes.length ? bytes[from + i] & 255 : 32);
        }
        return x.feed(five[0], five[1], five[2], five[3], five[4]);
    }

    static void feedAll(FrameHeirs x, String text) {
        byte[] bytes = text.getBytes(StandardCharsets.ISO_8859_1);
        for (int from = 0; from < bytes.length; from += 20) {
            feedRow(x, bytes, from);
        }
    }

    static int tell(FrameHeirs x, String text) {
        feedAll(x, text);
        return x.text(text.length());
    }

    static FrameHeirs told(String text) {
        FrameHeirs x = new FrameHeirs();
        if (tell(x, text) < 0) {
            fail("not taken: " + text);
        }
        return x;
    }

    /** A run that can be made as often as one likes: a text and calls behind it. */
    static Supplier<FrameHeirs> run(String text, Consumer<FrameHeirs> calls) {
        return () -> {
            FrameHeirs x = told(text);
            calls.accept(x);
            return x;
        };
    }

    static Supplier<FrameHeirs> then(Supplier<FrameHeirs> before, Consumer<FrameHeirs> calls) {
        return () -> {
            FrameHeirs x = before.get();
            calls.accept(x);
            return x;
        };
    }

    static int deed(FrameHeirs x, int space, int place, int what) {
        try {
            return x.deed(space, place, what);
        } catch (IndexOutOfBoundsException e) {
            return INDEX;
        } catch (NoSuchElementException e) {
            return NO_ELEMENT;
        }
    }

    /** One thing of the deeds at a space's first places, as deed() tells it. */
    static void row(FrameHeirs x, int space, int what, int... want) {
        for (int place = 0; place < want.length; place++) {
            due(want[place], deed(x, space, place, what));
        }
    }

    /** All heirs of the deed at a place, as heir() tells them, and no more. */
    static void heirs(FrameHeirs x, int space, int place, int... want) {
        due(want.length, deed(x, space, place, 5));
        for (int k = 0; k < want.length; k++) {
            due(want[k], x.heir(space, place, k));
        }
        due(-2, x.heir(space, place, want.length));
    }

    /** A text with a fault just behind the sign ^, which isn't part of it; a new object each. */
    static void fault(int kind, String marked) {
        int place = marked.indexOf('^');
        FrameHeirs x = new FrameHeirs();
        due(NONE, tell(x, marked.substring(0, place) + marked.substring(place + 1)));
        due(kind, x.fault(0));
        due(place, x.fault(1));
    }

    static void noFault(int lines, String text) {
        FrameHeirs x = new FrameHeirs();
        due(lines, tell(x, text));
        due(0, x.fault(0));
        due(NONE, x.fault(1));
    }

    /** The call has an answer below 0, and nothing is changed by it but what can be undone. */
    static void refused(int answer, Supplier<FrameHeirs> before, ToIntFunction<FrameHeirs> call) {
        FrameHeirs x = before.get();
        int undoable = x.count(12);
        due(answer, call.applyAsInt(x));
        due(answer == NONE ? undoable : Math.min(20, undoable + 1), x.count(12));
        alike(before, then(before, call::applyAsInt));
    }

    /** All that can be asked of both has the same answers. */
    static void alike(Supplier<FrameHeirs> one, Supplier<FrameHeirs> other) {
        int[] ofOne = look(one);
        int[] ofOther = look(other);
        due(ofOne.length, ofOther.length);
        due(-1, Arrays.mismatch(ofOne, ofOther));
    }

    /** All that an object can be asked, but what can be undone: calls that are refused differ in that. */
    private static int[] look(Supplier<FrameHeirs> made) {
        FrameHeirs x = made.get();
        List<ToIntFunction<FrameHeirs>> questions = questions(x.count(0), x.count(1));
        int[] answers = new int[questions.size()];
        for (int i = 0; i < answers.length; i++) {
            if (i % QUESTIONS_EACH == 0) {
                x = made.get();
            }
            answers[i] = questions.get(i).applyAsInt(x);
        }
        return answers;
    }

    private static List<ToIntFunction<FrameHeirs>> questions(int spaces, int size) {
        List<ToIntFunction<FrameHeirs>> all = new ArrayList<>();
        for (int space = 0; space < spaces; space++) {
            for (int place = 0; place < size; place++) {
                ofPage(all, space, place);
            }
            ofSpace(all, space);
            for (int other = 0; other < spaces; other++) {
                ofSpaces(all, space, other);
            }
        }
        ofAll(all);
        return all;
    }

    private static void ofPage(List<ToIntFunction<FrameHeirs>> all, int space, int place) {
        for (int i = 0; i < 8; i++) {
            int what = i;
            all.add(x -> deed(x, space, place, what));
        }
        for (int i = 0; i < 3; i++) {
            int k = i;
            all.add(x -> x.above(space, place, k + 1));
            all.add(x -> x.heir(space, place, k));
        }
        all.add(x -> x.age(space, place));
    }

    private static void ofSpace(List<ToIntFunction<FrameHeirs>> all, int space) {
        for (int i = 0; i < 4; i++) {
            int what = i;
            all.add(x -> x.waits(space, what));
            all.add(x -> x.gap(space, what));
        }
        all.add(x -> x.free(space));
        all.add(x -> x.coldest(space));
        all.add(x -> x.warmth(space));
        all.add(x -> x.cool(space));
        all.add(x -> x.kept(space));
    }

    private static void ofSpaces(List<ToIntFunction<FrameHeirs>> all, int one, int other) {
        all.add(x -> x.reach(one, other));
        all.add(x -> x.shared(one, other));
        all.add(x -> x.gates(one, other));
        all.add(x -> x.ratio(one, other));
    }

    private static void ofAll(List<ToIntFunction<FrameHeirs>> all) {
        for (int i = 0; i < 24; i++) {
            int k = i;
            all.add(x -> x.job(k / 4, k % 4));
            all.add(x -> x.answer(k));
        }
        for (int i = 0; i < 12; i++) {
            int what = i;
            all.add(x -> x.count(what));
        }
        for (int i = 0; i < 5; i++) {
            int what = i;
            all.add(x -> x.tried(what));
        }
        all.add(x -> x.churn(1, 20));
        all.add(x -> x.churn(-1, 20));
    }
}
