import java.util.ArrayList;
import java.util.List;
import java.util.Random;
import java.util.function.Supplier;
import java.util.function.ToIntFunction;

/**
 * The edges of promises 39 and 40 and of what holds for all calls: what can be undone, which of several answers is told,
 * that a refused call changes nothing. The remark ahead of each test says to which sentence it belongs.
 */
final class EdgesOfWholeTest extends Probe {
    private static final String EIGHT = "size 8;space r;space a;space b;space c;";

    private EdgesOfWholeTest() {
    }

    public static void main(String[] args) {
        runAll(EdgesOfWholeTest.class);
    }

    // What it is: "An object is used for at most 512 calls after it has been made; what later calls answer is free."
    static void all512Calls() {
        FrameHeirs x = new FrameHeirs();
        int calls = 0;
        for (; calls < 34; calls++) {
            due(20 * (calls + 1), x.feed(0x20202020, 0x20202020, 0x20202020, 0x20202020, 0x20202020));
        }
        due(700, feedRow(x, "size 8;space r;".getBytes(), 0));
        due(2, x.text(700));
        for (calls += 2; calls < 511; calls++) {
            due(calls % 8, x.touch(0, calls % 8, 4));
        }
        due(bits(475f), x.age(0, 0));
    }

    /** A state from which each kind of call can do something. */
    private static Supplier<FrameHeirs> rich() {
        return run("size 8;budget 1;space r;space a;space b;space c;pager a r 0;pager b a 0;pager c r 1;quota c 3;"
            + "map r 4 a 4 2 7;flush r 4 1 2 0;touch a 6 1;", x -> {
                x.flush(0, region(4, 2), 1, false);
                x.map(0, region(0, 1), 1, 0, 7);
                x.map(1, region(0, 0), 2, 0, 3);
                x.map(1, region(1, 0), 3, 7, 3);
                x.map(0, region(1, 0), 3, 6, 3);
                x.map(1, region(0, 0), 2, 3, 7);
                x.map(1, region(0, 0), 2, 4, 7);
                x.map(2, region(3, 0), 3, 1, 7);
                x.touch(1, 0, 1);
                x.flush(1, region(0, 0), 4, false);
                x.work(1);
                x.touch(2, 6, 1);
                x.touch(3, 7, 4);
            });
    }

    private static List<ToIntFunction<FrameHeirs>> kinds() {
        List<ToIntFunction<FrameHeirs>> kinds = new ArrayList<>();
        kinds.add(x -> x.map(0, region(2, 1), 1, 2, 5));
        kinds.add(x -> x.grant(0, region(6, 0), 1, 3));
        kinds.add(x -> x.flush(3, region(6, 0), 1, true));
        kinds.add(x -> x.flush(0, region(7, 0), 1, false));
        kinds.add(x -> x.work(1));
        kinds.add(x -> x.touch(1, 1, 2));
        kinds.add(x -> x.touch(1, 7, 2));
        kinds.add(x -> x.serve(0));
        kinds.add(x -> x.serve(1));
        kinds.add(FrameHeirs::settle);
        kinds.add(FrameHeirs::tick);
        kinds.add(x -> x.tidy(0));
        kinds.add(x -> x.run(3));
        return kinds;
    }

    // Terms 4: "Each call of map .. run that isn't NONE can be undone, the latest first (20 at most; LINES, too)."
    static void eachKindIsUndone() {
        int[] due = {1, 1, 1, 0, 1, 1, -2, 3, -6, 3, 10, 1, 3};
        List<ToIntFunction<FrameHeirs>> kinds = kinds();
        for (int i = 0; i < due.length; i++) {
            ToIntFunction<FrameHeirs> kind = kinds.get(i);
            FrameHeirs x = rich().get();
            int undoable = x.count(12);
            due(due[i], kind.applyAsInt(x));
            due(undoable + 1, x.count(12));
            due(undoable, x.undo());
            alike(rich(), then(rich(), y -> {
                kind.applyAsInt(y);
                y.undo();
            }));
        }
        alike(rich(), then(rich(), y -> {
            kinds.forEach(kind -> kind.applyAsInt(y));
            kinds.forEach(kind -> y.undo());
        }));
        Supplier<FrameHeirs> refused = run(EIGHT + "pager b a 0;quota b 1;", x -> {
            x.map(0, region(0, 0), 2, 3, 7);
            x.map(2, region(3, 0), 1, 5, 7);
            x.touch(2, 5, 1);
        });
        FrameHeirs x = refused.get();
        due(-5, x.serve(1));
        due(8, x.count(3));
        due(3, x.undo());
        alike(refused, then(refused, y -> {
            y.serve(1);
            y.undo();
        }));
    }

    // Terms 4: "Each call of map .. run that isn't NONE can be undone, the latest first"
    static void whatWasUndoneLeavesNoTrace() {
        for (ToIntFunction<FrameHeirs> undone : kinds()) {
            for (ToIntFunction<FrameHeirs> next : kinds()) {
                alike(then(rich(), next::applyAsInt), then(rich(), x -> {
                    undone.applyAsInt(x);
                    x.undo();
                    next.applyAsInt(x);
                }));
            }
        }
        alike(then(rich(), x -> x.work(99)), then(rich(), x -> {
            x.work(1);
            x.undo();
            x.work(1);
            x.work(2);
            x.undo();
            x.work(99);
        }));
    }

    // Terms 4: "Each call of map .. run that isn't NONE can be undone,"
    static void whatCannotBeUndone() {
        FrameHeirs x = told(EIGHT + "serve r;");
        due(0, x.count(12));
        for (int answer : new int[] {x.map(0, 0, 0, 0, 7), x.grant(0, 0, 9, 0), x.flush(0, 0, 0, false), x.work(100),
            x.touch(0, 8, 1), x.serve(4), x.tidy(-1), x.run(25)}) {
            due(NONE, answer);
        }
        x.feed(0, 0, 0, 0, 0);
        x.fault(0);
        x.named(0);
        x.answer(0);
        x.churn(1, 20);
        x.tried(4);
        x.steps(0, 0);
        x.cool(0);
        due(-2, x.text(99));
        due(NONE, x.text(1));
        due(0, x.count(12));
        due(NONE, x.undo());
        due(-2, x.serve(0));
        due(-3, x.touch(1, 0, 1));
        due(-2, x.map(1, 0, 2, 0, 7));
        due(-2, x.grant(1, 0, 2, 0));
        due(-2, x.flush(1, 0, 7, false));
        due(0, x.work(0));
        due(0, x.settle());
        due(1, x.tick());
        due(0, x.tidy(0));
        due(0, x.run(0));
        due(10, x.count(12));
    }

    // Terms 4: "the latest first (20 at most; LINES, too)."
    static void twentyAtMost() {
        FrameHeirs x = told(EIGHT);
        for (int i = 1; i <= 25; i++) {
            x.touch(0, 0, 1);
            due(Math.min(i, 20), x.count(12));
        }
        for (int left = 19; left >= 0; left--) {
            due(left, x.undo());
            due(bits(5f + left), x.age(0, 0));
        }
        due(NONE, x.undo());
        due(bits(5f), x.age(0, 0));
        for (int i = 0; i < 50; i++) {
            x.touch(0, 0, 1);
            x.touch(0, 0, 1);
            due(Math.min(20, i + 2) - 1, x.undo());
        }
        due(bits(55f), x.age(0, 0));
        due(19, x.count(12));
    }

    // Terms 4: "LINES, too)."
    static void linesAreUndone() {
        FrameHeirs x = told("size 16;space r;space a;");
        x.map(0, region(0, 0), 1, 0, 7);
        x.map(0, region(2, 1), 1, 2, 7);
        due(16, x.kept(1));
        x.undo();
        due(8, x.kept(1));
        x.undo();
        due(0, x.kept(1));
        x.map(0, region(2, 1), 1, 8, 7);
        x.grant(1, region(8, 1), 0, 0);
        due(16, x.kept(1));
        x.flush(1, region(8, 1), 7, true);
        x.work(1);
        due(16, x.kept(1));
        x.tidy(1);
        due(0, x.kept(1));
        x.undo();
        due(16, x.kept(1));
        x.tidy(1);
        x.undo();
        due(16, x.kept(1));
    }

    /** a@0 is busy and has rights 3, b is full with a page at 0, six jobs are there if asked. */
    private static Supplier<FrameHeirs> crowded(boolean sixJobs) {
        return run("size 16;space r;space a;space b;quota b 1;", x -> {
            x.map(0, region(0, 0), 1, 0, 3);
            x.map(0, region(1, 0), 1, 1, 3);
            x.map(0, region(2, 0), 2, 0, 7);
            x.flush(1, region(0, 0), 1, true);
            x.map(0, region(8, 3), 1, 8, 7);
            for (int place = 8; sixJobs && place < 13; place++) {
                x.flush(1, region(place, 0), 1, true);
            }
        });
    }

    // Terms 4: "Of several answers below 0 that hold the one nearest to 0 is told"
    static void theNearestToNothing() {
        FrameHeirs x = crowded(false).get();
        due(NONE, x.map(1, region(4, 0), 2, 0, 0));
        due(NONE, x.map(1, region(0, 0), 1, 0, 4));
        due(-2, x.map(1, region(4, 0), 2, 0, 7));
        due(-3, x.map(1, region(0, 0), 2, 0, 7));
        due(-3, x.map(1, region(0, 0), 2, 4, 4));
        due(-3, x.map(1, region(0, 0), 2, 4, 7));
        due(-4, x.map(1, region(1, 0), 2, 0, 4));
        due(-4, x.map(1, region(1, 0), 2, 0, 7));
        due(-5, x.map(1, region(1, 0), 2, 4, 4));
        due(-6, x.map(1, region(1, 0), 2, 4, 7));
        due(NONE, x.grant(1, region(4, 0), 1, 0));
        due(-2, x.grant(1, region(4, 0), 2, 0));
        due(-3, x.grant(1, region(0, 0), 2, 0));
        due(-3, x.grant(1, region(0, 0), 2, 4));
        due(-4, x.grant(1, region(1, 0), 2, 0));
        due(-5, x.grant(1, region(1, 0), 2, 4));
        FrameHeirs y = crowded(true).get();
        due(6, y.count(4));
        due(NONE, y.flush(0, region(0, 0), 8, true));
        due(-2, y.flush(1, region(4, 0), 7, true));
        due(-3, y.flush(0, region(0, 0), 7, true));
        due(-3, y.flush(1, region(0, 0), 7, false));
        due(-3, y.flush(0, region(0, 3), 7, true));
        due(-5, y.flush(1, region(1, 0), 7, true));
        due(-2, y.steps(1, region(4, 0)));
        due(-3, y.steps(1, region(0, 0)));
        due(-5, y.steps(1, region(1, 0)));
        due(NONE, y.lost(1, region(4, 0), 2));
        due(NONE, y.above(1, 4, 0));
        due(NONE, y.heir(1, 4, -1));
        due(NONE, y.ratio(3, 1));
        due(NONE, new FrameHeirs().churn(1, 0));
        FrameHeirs free = run("size 16;space r;space a;", z -> {
            z.map(0, region(0, 3), 1, 0, 7);
            for (int place = 0; place < 6; place++) {
                z.flush(1, region(place, 0), 1, true);
            }
        }).get();
        due(-4, free.flush(0, region(8, 3), 7, true));
        due(-5, free.flush(0, region(8, 3), 7, false));
    }

    // Terms 4: "(but in serve, whose points go one behind another),"
    static void pointsOfServeOneBehindAnother() {
        String text = EIGHT + "space d;pager a r 0;pager b a 0;pager c d 0;";
        FrameHeirs lacks = told(text);
        lacks.map(0, region(0, 0), 2, 0, 3);
        lacks.flush(2, region(0, 0), 1, true);
        lacks.touch(2, 0, 4);
        due(-6, lacks.serve(1));
        due(-4, lacks.serve(1));
        FrameHeirs refused = told(text);
        refused.map(0, region(0, 0), 3, 0, 3);
        refused.flush(3, region(0, 0), 1, true);
        refused.touch(3, 0, 4);
        due(-5, refused.serve(4));
        FrameHeirs busy = told(EIGHT + "pager b r 1;");
        busy.touch(2, 0, 1);
        busy.grant(0, region(0, 0), 2, 0);
        busy.map(0, region(4, 0), 1, 0, 7);
        busy.flush(0, region(4, 0), 1, false);
        due(-3, busy.serve(0));
        busy.work(9);
        due(-5, busy.serve(0));
        FrameHeirs full = told(EIGHT + "pager b r 1;quota b 2;");
        full.touch(2, 0, 1);
        full.grant(0, region(0, 0), 2, 0);
        full.map(0, region(1, 0), 2, 1, 7);
        due(-5, full.serve(0));
        due(1, deed(full, 2, 1, 0));
    }

    // Terms 4: "IndexOutOfBoundsException ahead of NoSuchElementException, both ahead of numbers."
    static void exceptionsAheadOfNumbers() {
        FrameHeirs x = told(EIGHT);
        due(INDEX, deed(x, 4, 0, 8));
        due(INDEX, deed(x, -1, -1, -1));
        due(INDEX, deed(x, 0, 8, 8));
        due(INDEX, deed(x, 1, LEAST, MOST));
        due(NO_ELEMENT, deed(x, 1, 0, 8));
        due(NO_ELEMENT, deed(x, 1, 0, -1));
        due(NO_ELEMENT, deed(x, 0, 0, 8));
        due(-2, deed(x, 1, 0, 7));
        due(INDEX, deed(new FrameHeirs(), 0, 0, 9));
    }

    // Terms 4: "A DEED of a greater ORDER that reaches over a REGION (or the page of serve's (2)) is asked whole, ahead of any
    // CUT."
    static void aGreaterDeedIsAskedWhole() {
        Supplier<FrameHeirs> beneath = run(EIGHT + "pager a r 0;", x -> {
            x.map(0, region(0, 1), 1, 0, 3);
            x.map(1, region(1, 0), 2, 5, 3);
            x.flush(2, region(5, 0), 1, true);
        });
        refused(-3, beneath, x -> x.grant(1, region(0, 0), 3, 0));
        refused(-3, beneath, x -> x.flush(1, region(0, 0), 1, false));
        refused(-3, beneath, x -> x.flush(0, region(7, 0), 1, false));
        due(-3, beneath.get().steps(0, region(7, 0)));
        due(1, beneath.get().map(1, region(0, 0), 3, 0, 3));
        refused(-3, then(beneath, x -> x.touch(1, 0, 4)), x -> x.serve(0));
        Supplier<FrameHeirs> busy = run(EIGHT + "pager b r 0;", x -> {
            x.map(0, region(0, 0), 1, 0, 7);
            x.flush(0, region(0, 3), 1, false);
        });
        refused(-3, busy, x -> x.map(0, region(7, 0), 3, 0, 7));
        refused(-3, busy, x -> x.grant(0, region(7, 0), 3, 0));
        refused(-3, then(busy, x -> x.touch(2, 7, 1)), x -> x.serve(0));
        Supplier<FrameHeirs> first = run(EIGHT, x -> x.count(0));
        refused(-4, first, x -> x.flush(0, region(7, 0), 1, true));
        refused(-4, then(first, x -> x.map(0, region(0, 0), 1, 0, 7)), x -> x.grant(0, region(7, 0), 1, 0));
        refused(-5, run(EIGHT + "quota a 1;", x -> x.map(0, region(0, 0), 1, 0, 7)), x -> x.grant(0, region(7, 0), 1, 1));
    }

    // Terms 4: "A call that is refused by NONE, or by another answer below 0, changes nothing, but as it is said."
    static void refusedCallsChangeNothing() {
        Random chance = new Random(11);
        List<ToIntFunction<FrameHeirs>> found = new ArrayList<>();
        while (found.size() < 2000) {
            ToIntFunction<FrameHeirs> call = anyCall(chance);
            int answer = call.applyAsInt(rich().get());
            if (answer < 0) {
                found.add(call);
            }
        }
        for (int from = 0; from < found.size(); from += 100) {
            List<ToIntFunction<FrameHeirs>> some = found.subList(from, from + 100);
            alike(rich(), then(rich(), x -> some.forEach(call -> due(1, call.applyAsInt(x) < 0 ? 1 : 0))));
        }
    }

    /** Any call that can be refused, but touch and serve where they change something as it is said. */
    private static ToIntFunction<FrameHeirs> anyCall(Random chance) {
        int one = chance.nextInt(6) - 1;
        int other = chance.nextInt(6) - 1;
        int region = chance.nextInt(34) - 1;
        int at = chance.nextInt(10) - 1;
        int rights = chance.nextInt(10) - 1;
        boolean itself = chance.nextBoolean();
        switch (chance.nextInt(8)) {
            case 0:
                return x -> x.map(one, region, other, at, rights);
            case 1:
                return x -> x.grant(one, region, other, at);
            case 2:
                return x -> x.flush(one, region, rights, itself);
            case 3:
                return x -> x.touch(one == 1 ? 2 : one, at, rights);
            case 4:
                return x -> x.serve(one == 0 || one == 1 ? 2 : one);
            case 5:
                return x -> x.tidy(at < 4 ? -1 : at);
            case 6:
                return x -> x.work(itself ? -1 : 100);
            default:
                return x -> x.run(itself ? -1 : 25);
        }
    }

    // Promise 39: "The latest is undone: how many can be undone then;"
    static void theLatestIsUndone() {
        FrameHeirs x = told(EIGHT + "pager a r 0;map r 0 b 0 0 7;map r 1 b 1 0 7;");
        x.map(0, region(4, 0), 1, 4, 7);
        x.touch(1, 5, 1);
        x.serve(0);
        x.run(2);
        due(4, x.count(12));
        due(3, x.undo());
        due(0, x.count(6));
        due(-2, deed(x, 2, 0, 0));
        due(5, deed(x, 1, 5, 0));
        due(2, x.undo());
        due(1, x.waits(1, 0));
        due(-2, deed(x, 1, 5, 0));
        due(1, x.undo());
        due(0, x.waits(1, 0));
        due(4, deed(x, 1, 4, 0));
        due(-2, x.touch(1, 6, 1));
        due(1, x.undo());
        due(0, x.undo());
        due(-2, deed(x, 1, 4, 0));
        alike(() -> told(EIGHT), then(() -> told(EIGHT), y -> {
            y.grant(0, region(3, 0), 1, 3);
            y.tidy(0);
            y.undo();
            y.undo();
        }));
    }

    // Promise 39: "NONE: none."
    static void nothingToUndo() {
        due(NONE, new FrameHeirs().undo());
        FrameHeirs x = told(EIGHT);
        due(NONE, x.undo());
        x.tick();
        due(0, x.undo());
        refused(NONE, run(EIGHT, y -> {
            y.touch(0, 0, 1);
            y.tick();
            y.undo();
            y.undo();
        }), FrameHeirs::undo);
        x.tick();
        tell(x, EIGHT);
        due(NONE, x.undo());
    }

    // Promise 40: "0 SPACES, 1 size, 2 DEEDS, 3 pages that all SPACES have, 4 JOBS, 5 STEPS of the TEXT, 6 how many of these are
    // done, 7 DEEDS that were SPLIT, 8 FAULTS, 9 REFUSED, 10 STEPS of WORK"
    static void elevenCounts() {
        counts(new FrameHeirs(), 0, 16, 0, 0, 0, 0, 0, 0, 0, 0, 0, 0, 0);
        FrameHeirs x = told("size 32;space r;space a;space b;space c;space d;space e;pager a b 0;pager b r 0;map r 0 a 0 3 7;"
            + "map a 0 b 0 0 7;serve r;");
        counts(x, 6, 32, 4, 32, 0, 3, 0, 0, 0, 0, 0, 0, 0);
        x.run(2);
        counts(x, 6, 32, 6, 41, 0, 3, 2, 0, 0, 0, 0, 2, 1);
        x.flush(0, region(0, 0), 1, false);
        counts(x, 6, 32, 12, 41, 1, 3, 2, 6, 0, 0, 0, 2, 2);
        x.work(9);
        counts(x, 6, 32, 12, 41, 0, 3, 2, 6, 0, 0, 2, 2, 3);
        x.touch(1, 31, 4);
        x.serve(2);
        counts(x, 6, 32, 12, 41, 0, 3, 2, 6, 2, 0, 2, 2, 5);
        x.grant(0, region(31, 0), 5, 31);
        x.serve(0);
        counts(x, 6, 32, 15, 41, 0, 3, 2, 9, 2, 1, 2, 2, 7);
        x.touch(5, 0, 1);
        counts(x, 6, 32, 15, 41, 0, 3, 2, 9, 2, 1, 2, 2, 8);
    }

    private static void counts(FrameHeirs x, int... want) {
        for (int what = 0; what < want.length; what++) {
            due(want[what], x.count(what));
        }
    }

    // Promise 40: "(7 .. 10 since the TEXT, what was undone not among them),"
    static void countsSinceTheText() {
        FrameHeirs x = rich().get();
        int[] before = new int[11];
        for (int what = 0; what <= 10; what++) {
            before[what] = x.count(what);
        }
        x.grant(0, region(7, 0), 1, 3);
        due(before[7] + 2, x.count(7));
        x.undo();
        x.touch(1, 7, 2);
        due(before[8] + 1, x.count(8));
        x.undo();
        x.grant(0, region(5, 0), 2, 5);
        x.touch(1, 5, 2);
        x.serve(0);
        x.serve(0);
        due(before[9] + 1, x.count(9));
        x.undo();
        x.undo();
        x.undo();
        x.undo();
        x.work(1);
        due(before[10] + 1, x.count(10));
        x.undo();
        for (int what = 0; what <= 10; what++) {
            due(before[what], x.count(what));
        }
        x.work(1);
        x.grant(0, region(7, 0), 1, 3);
        tell(x, EIGHT);
        for (int what = 7; what <= 10; what++) {
            due(0, x.count(what));
        }
    }

    // Promise 40: "11 how many are ABOVE a DEED at most, 12 what can be undone."
    static void depthAndWhatCanBeUndone() {
        FrameHeirs x = told("size 32;space r;space a;space b;space c;space d;space e;");
        int space = 0;
        int place = 31;
        for (int i = 0; i < 160; i++) {
            due(i, x.count(11));
            due(Math.min(i, 20), x.count(12));
            x.map(space, region(place, 0), 1 + i % 5, 31 - i / 5, 7);
            space = 1 + i % 5;
            place = 31 - i / 5;
        }
        due(160, x.count(11));
        x.undo();
        due(159, x.count(11));
        due(19, x.count(12));
    }

    // Promise 40: "NONE for another what."
    static void anotherWhatOfCount() {
        for (int what : new int[] {-1, 13, 14, LEAST, MOST}) {
            due(NONE, rich().get().count(what));
            due(NONE, new FrameHeirs().count(what));
        }
    }
}
