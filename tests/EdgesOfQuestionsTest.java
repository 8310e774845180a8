import java.util.function.Consumer;
import java.util.function.Supplier;

/**
 * The edges of promises 17 to 38, what is only asked, and of warmth, draws and churn. The remark ahead of each test says
 * to which sentence of the document it belongs.
 */
final class EdgesOfQuestionsTest extends Probe {
    private static final String EIGHT = "size 8;space r;space a;space b;space c;";
    private static final int[] NO_SPACES = {-1, 4, 5, 6, LEAST, MOST};
    private static final int[] NO_PLACES = {-1, 8, 16, 31, 32, LEAST, MOST};

    private EdgesOfQuestionsTest() {
    }

    public static void main(String[] args) {
        runAll(EdgesOfQuestionsTest.class);
    }

    /** a@0..3 has frames 4..7, b@5 and c@0..1 are its heirs, c@7 is b@5's; b@5 is the top of a job. */
    private static FrameHeirs some() {
        FrameHeirs x = told(EIGHT + "pager a r 0;pager b r 0;pager c a 0;");
        x.map(0, region(4, 2), 1, 0, 6);
        x.map(1, region(2, 0), 2, 5, 2);
        x.map(1, region(2, 1), 3, 0, 7);
        x.map(2, region(5, 0), 3, 7, 7);
        x.flush(2, region(5, 0), 4, false);
        return x;
    }

    /** Whatever is only asked changes nothing, also what can be undone. */
    private static void changesNothing(Consumer<FrameHeirs> question) {
        FrameHeirs x = some();
        int undoable = x.count(12);
        question.accept(x);
        due(undoable, x.count(12));
        alike(EdgesOfQuestionsTest::some, then(EdgesOfQuestionsTest::some, question));
    }

    // Promise 17: "Of the DEED at a PLACE, what 0 the FRAME at it, 1 RIGHTS, 2 ORDER, 3 its first PLACE, 4 how many are ABOVE, 5
    // HEIRS, 6 how many BENEATH, 7 BUSY (1, 0);"
    static void deedTellsEightThings() {
        int[][] due = {{0, 0, 0, 7, 3, 0, 0, 1, 4, 0}, {0, 7, 7, 7, 3, 0, 0, 1, 4, 0}, {1, 0, 4, 6, 2, 0, 1, 2, 3, 0},
            {1, 3, 7, 6, 2, 0, 1, 2, 3, 0}, {2, 5, 6, 2, 0, 5, 2, 1, 1, 1}, {3, 1, 7, 6, 1, 0, 2, 0, 0, 0},
            {3, 7, 6, 2, 0, 7, 3, 0, 0, 1}};
        for (int[] row : due) {
            for (int what = 0; what <= 7; what++) {
                due(row[2 + what], deed(some(), row[0], row[1], what));
            }
        }
        changesNothing(x -> deed(x, 3, 7, 6));
    }

    // Promise 17: "-2: there is none."
    static void noDeedAtThePlace() {
        for (int what = 0; what <= 7; what++) {
            due(-2, deed(some(), 1, 4, what));
            due(-2, deed(some(), 2, 4, what));
            due(-2, deed(some(), 2, 6, what));
            due(-2, deed(told(EIGHT), 3, 7, what));
        }
    }

    // Promise 17: "IndexOutOfBoundsException: no such SPACE, PLACE."
    static void deedOfNoSuchSpaceOrPlace() {
        for (int space : NO_SPACES) {
            due(INDEX, deed(some(), space, 0, 0));
        }
        for (int place : NO_PLACES) {
            due(INDEX, deed(some(), 0, place, 0));
            due(INDEX, deed(some(), 1, place, 7));
        }
        due(INDEX, deed(new FrameHeirs(), 0, 0, 0));
        due(15, deed(told("space r;"), 0, 15, 0));
        due(INDEX, deed(told("space r;"), 0, 16, 0));
        due(31, deed(told("size 32;space r;"), 0, 31, 0));
        due(INDEX, deed(told("size 32;space r;"), 0, 32, 0));
    }

    // Promise 17: "NoSuchElementException: no such what."
    static void deedOfNoSuchWhat() {
        for (int what : new int[] {-1, 8, 9, LEAST, MOST}) {
            due(NO_ELEMENT, deed(some(), 0, 0, what));
            due(NO_ELEMENT, deed(some(), 1, 7, what));
        }
    }

    /** One page of root's handed on from space to space, over 160 places. */
    private static FrameHeirs chain() {
        FrameHeirs x = told("size 32;space r;space a;space b;space c;space d;space e;");
        int space = 0;
        int place = 7;
        for (int i = 0; i < 160; i++) {
            x.map(space, region(place, 0), 1 + i % 5, i / 5, 7);
            space = 1 + i % 5;
            place = i / 5;
        }
        return x;
    }

    // Promise 18: "The k-th ABOVE the DEED at a PLACE (1: its GIVER), where it has the same FRAME: 32 times its SPACE and that
    // PLACE;"
    static void theKthAbove() {
        due(32 + 2, some().above(2, 5, 1));
        due(32 + 3, some().above(3, 1, 1));
        due(7, some().above(3, 1, 2));
        due(64 + 5, some().above(3, 7, 1));
        due(6, some().above(3, 7, 3));
        FrameHeirs x = chain();
        for (int k = 1; k < 160; k++) {
            int at = 159 - k;
            due(32 * (1 + at % 5) + at / 5, x.above(5, 31, k));
        }
        due(7, x.above(5, 31, 160));
        changesNothing(y -> y.above(3, 7, 2));
    }

    // Promise 18: "-2: there is none."
    static void noneAbove() {
        for (int k : new int[] {1, 2, 200, MOST}) {
            due(-2, some().above(0, 0, k));
            due(-2, some().above(1, 4, k));
        }
        due(-2, some().above(3, 7, 4));
        due(-2, some().above(3, 7, MOST));
        due(-2, chain().above(5, 31, 161));
        due(-2, chain().above(5, 31, 193));
    }

    // Promise 18: "NONE: no such ones, k is below 1."
    static void aboveOfNoSuchOnes() {
        for (int k : new int[] {0, -1, LEAST}) {
            due(NONE, some().above(3, 7, k));
            due(NONE, some().above(1, 4, k));
        }
        for (int space : NO_SPACES) {
            due(NONE, some().above(space, 0, 1));
        }
        for (int place : NO_PLACES) {
            due(NONE, some().above(3, place, 1));
        }
        due(NONE, new FrameHeirs().above(0, 0, 1));
    }

    // Promise 19: "The k-th HEIR (0 on) of the DEED at a PLACE: 32 times its SPACE and its first PLACE;"
    static void theKthHeir() {
        for (int place = 0; place < 4; place++) {
            due(64 + 5, some().heir(1, place, 0));
            due(96, some().heir(1, place, 1));
        }
        due(32, some().heir(0, 0, 0));
        FrameHeirs x = told("size 32;space r;space a;space b;space c;space d;space e;");
        for (int i = 0; i < 160; i++) {
            x.map(0, region(31, 0), 1 + i % 5, 31 - i / 5, 7);
        }
        for (int k = 0; k < 160; k++) {
            due(32 * (1 + k % 5) + 31 - k / 5, x.heir(0, 24, k));
        }
        due(-2, x.heir(0, 24, 160));
        due(-2, x.heir(0, 16, 0));
        changesNothing(y -> y.heir(1, 0, 1));
    }

    // Promise 19: "-2: there is none."
    static void noSuchHeir() {
        due(-2, some().heir(1, 0, 2));
        due(-2, some().heir(3, 7, 0));
        due(-2, some().heir(1, 4, 0));
        due(-2, some().heir(1, 0, 193));
        due(-2, some().heir(1, 0, MOST));
    }

    // Promise 19: "NONE: no such ones, k is below 0."
    static void heirOfNoSuchOnes() {
        for (int k : new int[] {-1, -2, LEAST}) {
            due(NONE, some().heir(1, 0, k));
            due(NONE, some().heir(1, 4, k));
        }
        for (int space : NO_SPACES) {
            due(NONE, some().heir(space, 0, 0));
        }
        for (int place : NO_PLACES) {
            due(NONE, some().heir(1, place, 0));
        }
        due(NONE, new FrameHeirs().heir(0, 0, 0));
    }

    // Promise 20: "The SPACES (bits) that have a FRAME by a DEED with all these RIGHTS 1 .. 7;"
    static void whoHoldsAFrame() {
        FrameHeirs x = told("size 32;space r;space a;space b;space c;space d;space e;");
        x.map(0, region(31, 0), 1, 0, 1);
        x.map(0, region(31, 0), 2, 1, 2);
        x.map(0, region(30, 1), 3, 2, 4);
        x.map(0, region(31, 0), 4, 4, 1);
        x.map(0, region(31, 0), 4, 5, 2);
        x.map(0, region(24, 3), 5, 8, 3);
        int[] due = {0, 1 + 2 + 16 + 32, 1 + 4 + 16 + 32, 1 + 32, 1 + 8, 1, 1, 1};
        for (int rights = 1; rights <= 7; rights++) {
            due(due[rights], x.holds(31, rights));
        }
        due(1 + 8 + 32, x.holds(30, 1) | x.holds(30, 4));
        due(1, x.holds(0, 7));
        due(0, new FrameHeirs().holds(15, 1));
        changesNothing(y -> y.holds(6, 2));
    }

    // Promise 20: "NONE: no such ones."
    static void holdsOfNoSuchOnes() {
        for (int frame : NO_PLACES) {
            due(NONE, some().holds(frame, 1));
        }
        for (int rights : new int[] {0, 8, 9, -1, LEAST, MOST}) {
            due(NONE, some().holds(0, rights));
        }
        due(NONE, new FrameHeirs().holds(16, 1));
        due(NONE, told("size 32;space r;").holds(32, 1));
    }

    // Promise 21: "At how many PLACES a SPACE has a FRAME;"
    static void placesOfAFrame() {
        FrameHeirs x = told("size 32;space r;space a;space b;");
        for (int place = 0; place < 32; place++) {
            due(place, x.aliases(1, 31));
            x.map(0, region(31, 0), 1, place, 7);
        }
        due(32, x.aliases(1, 31));
        due(0, x.aliases(1, 30));
        due(1, x.aliases(0, 0));
        due(1, x.aliases(0, 31));
        x.map(0, region(24, 3), 2, 0, 7);
        x.map(0, region(30, 1), 2, 8, 1);
        due(2, x.aliases(2, 30));
        due(1, x.aliases(2, 29));
        due(0, x.aliases(2, 23));
        changesNothing(y -> y.aliases(3, 6));
    }

    // Promise 21: "NONE: no such ones."
    static void aliasesOfNoSuchOnes() {
        for (int space : NO_SPACES) {
            due(NONE, some().aliases(space, 0));
        }
        for (int frame : NO_PLACES) {
            due(NONE, some().aliases(1, frame));
        }
        due(NONE, new FrameHeirs().aliases(0, 0));
    }

    // Promise 22: "How many pages of the second SPACE are of DEEDS BENEATH ones of the first one;"
    static void pagesBeneath() {
        int[][] due = {{0, 4, 1, 3}, {0, 0, 1, 3}, {0, 0, 0, 1}, {0, 0, 0, 0}};
        for (int one = 0; one < 4; one++) {
            for (int other = 0; other < 4; other++) {
                due(due[one][other], some().reach(one, other));
            }
        }
        FrameHeirs x = chain();
        due(32, x.reach(0, 5));
        due(31, x.reach(5, 5));
        due(0, x.reach(1, 0));
        due(31, x.reach(2, 1));
        changesNothing(y -> y.reach(1, 3));
    }

    // Promise 22: "NONE: no such SPACES."
    static void reachOfNoSuchSpaces() {
        for (int space : NO_SPACES) {
            due(NONE, some().reach(space, 0));
            due(NONE, some().reach(0, space));
        }
        due(NONE, new FrameHeirs().reach(0, 0));
    }

    // Promise 23: "How many FRAMES both have;"
    static void framesOfBoth() {
        int[][] due = {{8, 4, 1, 2}, {4, 4, 1, 2}, {1, 1, 1, 1}, {2, 2, 1, 2}};
        for (int one = 0; one < 4; one++) {
            for (int other = 0; other < 4; other++) {
                due(due[one][other], some().shared(one, other));
            }
        }
        FrameHeirs x = told("size 32;space r;space a;space b;");
        due(32, x.shared(0, 0));
        due(0, x.shared(0, 1));
        due(0, x.shared(1, 1));
        x.grant(0, region(31, 0), 1, 0);
        due(0, x.shared(0, 1));
        x.map(1, region(0, 0), 2, 0, 1);
        x.map(1, region(0, 0), 2, 9, 1);
        due(1, x.shared(2, 1));
        due(1, x.shared(2, 2));
        changesNothing(y -> y.shared(1, 3));
    }

    // Promise 23: "NONE: no such SPACES."
    static void sharedOfNoSuchSpaces() {
        for (int space : NO_SPACES) {
            due(NONE, some().shared(space, 0));
            due(NONE, some().shared(0, space));
        }
        due(NONE, new FrameHeirs().shared(0, 0));
    }

    // Promise 24: "The fewest DEEDS, BENEATH ones of the first SPACE and none of it, so that, if these would GO, no DEED of the
    // second one would be BENEATH one of the first one;"
    static void theFewestGates() {
        int[][] due = {{NONE, 1, 1, 1}, {0, NONE, 1, 2}, {0, 0, NONE, 1}, {0, 0, 0, NONE}};
        for (int one = 0; one < 4; one++) {
            for (int other = 0; other < 4; other++) {
                due(due[one][other], some().gates(one, other));
            }
        }
        FrameHeirs own = told(EIGHT);
        own.grant(0, region(7, 0), 3, 7);
        own.map(0, region(0, 0), 1, 0, 7);
        own.grant(1, region(0, 0), 0, 7);
        own.map(0, region(7, 0), 2, 0, 7);
        own.map(0, region(7, 0), 2, 1, 7);
        due(2, own.gates(0, 2));
        due(0, own.gates(1, 2));
        FrameHeirs round = told(EIGHT);
        round.map(0, region(0, 0), 2, 0, 7);
        round.map(2, region(0, 0), 1, 0, 7);
        round.map(1, region(0, 0), 2, 1, 7);
        round.map(1, region(0, 0), 3, 1, 7);
        round.map(3, region(1, 0), 2, 2, 7);
        due(1, round.gates(0, 2));
        due(2, round.gates(1, 2));
        due(1, round.gates(2, 1));
        due(1, round.gates(2, 3));
        FrameHeirs wide = told("size 32;space r;space a;");
        for (int place = 0; place < 32; place++) {
            due(place, wide.gates(0, 1));
            wide.map(0, region(place, 0), 1, place, 7);
        }
        due(32, wide.gates(0, 1));
        changesNothing(y -> y.gates(0, 3));
    }

    // Promise 24: "NONE: no such SPACES, they are one."
    static void gatesOfNoSuchSpaces() {
        for (int space : NO_SPACES) {
            due(NONE, some().gates(space, 0));
            due(NONE, some().gates(0, space));
        }
        for (int space = 0; space < 4; space++) {
            due(NONE, some().gates(space, space));
        }
        due(NONE, new FrameHeirs().gates(0, 1));
    }

    // Promise 25: "The first PLACE of a SPACE at which a REGION of an ORDER 0 .. 3 has no DEED;"
    static void theFirstGap() {
        FrameHeirs x = told("size 32;space r;space a;space b;");
        for (int order = 0; order <= 3; order++) {
            due(0, x.gap(1, order));
        }
        x.map(0, region(0, 0), 1, 0, 7);
        x.map(0, region(0, 1), 1, 4, 7);
        x.map(0, region(0, 0), 1, 15, 7);
        int[] due = {1, 2, 8, 16};
        for (int order = 0; order <= 3; order++) {
            due(due[order], x.gap(1, order));
        }
        x.grant(0, region(31, 0), 2, 31);
        due(31, x.gap(0, 0));
        x.grant(0, region(30, 0), 2, 30);
        due(30, x.gap(0, 1));
        x.grant(0, region(28, 1), 2, 28);
        due(28, x.gap(0, 2));
        x.grant(0, region(24, 2), 2, 24);
        due(24, x.gap(0, 3));
        changesNothing(y -> y.gap(3, 1));
    }

    // Promise 25: "-2: there is none."
    static void noGap() {
        FrameHeirs x = told("size 16;space r;space a;");
        for (int order = 0; order <= 3; order++) {
            due(-2, x.gap(0, order));
        }
        x.grant(0, region(15, 0), 1, 3);
        due(15, x.gap(0, 0));
        for (int order = 1; order <= 3; order++) {
            due(-2, x.gap(0, order));
        }
        x.map(0, region(8, 0), 1, 8, 7);
        due(-2, x.gap(1, 3));
        due(4, x.gap(1, 2));
    }

    // Promise 25: "NONE: no such ones."
    static void gapOfNoSuchOnes() {
        for (int space : NO_SPACES) {
            due(NONE, some().gap(space, 0));
        }
        for (int order : new int[] {-1, 4, 5, 31, 32, LEAST, MOST}) {
            due(NONE, some().gap(0, order));
            due(NONE, some().gap(1, order));
        }
        due(NONE, new FrameHeirs().gap(0, 0));
    }

    // Promise 26: "How many pages more it may have by its quota and by its PLACES;"
    static void roomByQuotaAndPlaces() {
        FrameHeirs x = told("size 8;space r;space a;space b;space c;space d;quota r 1;quota a 1;quota b 8;quota c 9;");
        int[] due = {0, 1, 8, 8, 8};
        for (int space = 0; space < 5; space++) {
            due(due[space], x.free(space));
        }
        x.grant(0, region(0, 1), 4, 0);
        x.map(0, region(2, 0), 1, 0, 7);
        x.map(0, region(4, 2), 2, 0, 7);
        int[] then = {2, 0, 4, 8, 6};
        for (int space = 0; space < 5; space++) {
            due(then[space], x.free(space));
        }
        FrameHeirs full = told("size 32;space r;space a;space b;quota a 31;");
        for (int place = 0; place < 32; place += 8) {
            full.map(0, region(place, 3), 2, place, 7);
        }
        due(0, full.free(2));
        due(31, full.free(1));
        changesNothing(y -> y.free(1));
    }

    // Promise 26: "NONE: no such SPACE."
    static void freeOfNoSuchSpace() {
        for (int space : NO_SPACES) {
            due(NONE, some().free(space));
        }
        due(NONE, new FrameHeirs().free(0));
    }

    // Promise 27: "The first PLACE of the COLDEST of all its DEEDS;"
    static void theColdestOfAll() {
        FrameHeirs x = told("size 16;space r;space a;space b;");
        due(0, x.coldest(0));
        x.touch(0, 0, 1);
        due(8, x.coldest(0));
        x.touch(0, 9, 1);
        due(0, x.coldest(0));
        x.map(0, region(0, 0), 1, 1, 7);
        x.map(0, region(0, 2), 1, 4, 7);
        x.map(0, region(0, 0), 1, 15, 7);
        x.touch(1, 1, 1);
        due(4, x.coldest(1));
        x.touch(1, 7, 1);
        due(15, x.coldest(1));
        due(1, x.flush(1, region(15, 0), 1, true));
        due(15, x.coldest(1));
        x.touch(1, 15, 1);
        due(1, x.coldest(1));
        changesNothing(y -> y.coldest(3));
    }

    // Promise 27: "-2: it has none;"
    static void noneIsColdest() {
        FrameHeirs x = told(EIGHT);
        for (int space = 1; space < 4; space++) {
            due(-2, x.coldest(space));
        }
        x.grant(0, region(0, 3), 1, 0);
        due(-2, x.coldest(0));
        due(0, x.coldest(1));
    }

    // Promise 27: "NONE: no such SPACE."
    static void coldestOfNoSuchSpace() {
        for (int space : NO_SPACES) {
            due(NONE, some().coldest(space));
        }
        due(NONE, new FrameHeirs().coldest(0));
    }

    // Promise 28: "AGE of the DEED at a PLACE, as 32 bits;"
    static void ageAsBits() {
        FrameHeirs x = told("size 8;space r;space a;");
        x.map(0, region(0, 0), 1, 0, 7);
        due(0, x.age(0, 0));
        x.touch(0, 3, 1);
        x.touch(0, 3, 1);
        x.touch(0, 3, 1);
        due(1077936128, x.age(0, 0));
        due(1077936128, x.age(0, 7));
        x.tick();
        due(1069547520, x.age(0, 5));
        x.touch(1, 0, 1);
        float age = 1f;
        for (int i = 0; i < 152; i++) {
            due(bits(age), x.age(1, 0));
            x.tick();
            age *= 0.5f;
        }
        due(0, x.age(1, 0));
        changesNothing(y -> y.age(3, 7));
    }

    // Promise 28: "-2: there is none;"
    static void noAge() {
        due(-2, some().age(1, 4));
        due(-2, some().age(2, 4));
        due(-2, told(EIGHT).age(1, 0));
    }

    // Promise 28: "NONE: no such ones."
    static void ageOfNoSuchOnes() {
        for (int space : NO_SPACES) {
            due(NONE, some().age(space, 0));
        }
        for (int place : NO_PLACES) {
            due(NONE, some().age(1, place));
        }
        due(NONE, new FrameHeirs().age(0, 0));
    }

    /** Pages of a's at given places, each touched so often, then ticks (each halves), then touches of place 0. */
    private static FrameHeirs warmed(int[] places, int touches, int ticks, int more) {
        FrameHeirs x = told("size 16;space r;space a;");
        x.map(0, region(0, 0), 1, 0, 7);
        for (int place : places) {
            x.map(0, region(place, 0), 1, place, 7);
            for (int i = 0; i < touches; i++) {
                x.touch(1, place, 1);
            }
        }
        for (int i = 0; i < ticks; i++) {
            x.tick();
        }
        for (int i = 0; i < more; i++) {
            x.touch(1, 0, 1);
        }
        return x;
    }

    // Terms 3: "WARMTH of a SPACE: from 0 on, by PLACES, of each DEED AGE times how many pages it has is added; all in floats,"
    static void warmthByPlaces() {
        due(bits(1f), warmed(new int[] {1, 2}, 1, 24, 1).warmth(1));
        due(bits(1f) + 1, warmed(new int[] {1}, 2, 24, 1).warmth(1));
        FrameHeirs pages = told("size 16;space r;space a;");
        pages.map(0, region(0, 0), 1, 0, 7);
        pages.map(0, region(2, 1), 1, 2, 7);
        pages.touch(1, 3, 1);
        for (int i = 0; i < 24; i++) {
            pages.tick();
        }
        pages.touch(1, 0, 1);
        due(bits(1f) + 1, pages.warmth(1));
        FrameHeirs orders = told("size 16;space r;space a;");
        float due = 0f;
        for (int order = 0; order <= 2; order++) {
            orders.map(0, region(0, order), 1, 1 << order, 7);
            orders.touch(1, 1 << order, 1);
            due += 1 << order;
        }
        due(bits(due), orders.warmth(1));
        orders.map(0, region(8, 3), 1, 8, 7);
        due(bits(due), orders.warmth(1));
        orders.touch(1, 15, 1);
        due(bits(due + 8f), orders.warmth(1));
    }

    // Terms 3: "each result the nearest one, of two as near the even one (AGES, too)."
    static void roundedToTheNearest() {
        int one = bits(1f);
        int[][] ages = {{1, 25, 0}, {1, 24, 0}, {3, 25, 1}, {1, 23, 1}, {5, 25, 1}, {3, 24, 2}, {7, 25, 2}, {1, 22, 2}};
        for (int[] row : ages) {
            FrameHeirs x = warmed(new int[] {1}, row[0], row[1], 1);
            due(one + row[2], x.warmth(1));
            x.touch(1, 1, 1);
            due(one + row[2], x.age(1, 1));
        }
        FrameHeirs small = warmed(new int[] {1, 2, 3}, 1, 149, 0);
        due(1, small.age(1, 1));
        due(3, small.warmth(1));
        small.tick();
        due(0, small.age(1, 1));
        FrameHeirs three = warmed(new int[] {1}, 3, 149, 0);
        due(3, three.age(1, 1));
        three.tick();
        due(2, three.age(1, 1));
        three.tick();
        due(1, three.age(1, 1));
        three.tick();
        due(0, three.age(1, 1));
    }

    // Promise 29: "WARMTH, as 32 bits;"
    static void warmthAsBits() {
        FrameHeirs x = told(EIGHT);
        due(0, x.warmth(0));
        due(0, x.warmth(1));
        x.touch(0, 0, 1);
        due(1090519040, x.warmth(0));
        x.tick();
        due(1082130432, x.warmth(0));
        changesNothing(y -> y.warmth(1));
    }

    // Promise 29: "NONE: no such SPACE."
    static void warmthOfNoSuchSpace() {
        for (int space : NO_SPACES) {
            due(NONE, some().warmth(space));
        }
        due(NONE, new FrameHeirs().warmth(0));
    }

    /** A page of a's touched so often, and one of b's touched so often ahead of some ticks. */
    private static FrameHeirs compared(int decay, int ofA, int ofB, int ticks) {
        FrameHeirs x = told(EIGHT + "decay " + decay + ";");
        x.map(0, region(0, 0), 1, 0, 7);
        x.map(0, region(0, 0), 2, 0, 7);
        for (int i = 0; i < ofB; i++) {
            x.touch(2, 0, 1);
        }
        for (int i = 0; i < ticks; i++) {
            x.tick();
        }
        for (int i = 0; i < ofA; i++) {
            x.touch(1, 0, 1);
        }
        return x;
    }

    // Promise 30: "WARMTH of the first SPACE times 100 by that of the second one (floats, each nearest), towards 0,"
    static void ratioInFloats() {
        due(100, compared(5, 1, 1, 0).ratio(1, 2));
        due(66, compared(5, 2, 3, 0).ratio(1, 2));
        due(150, compared(5, 2, 3, 0).ratio(2, 1));
        due(33, compared(5, 1, 3, 0).ratio(1, 2));
        due(0, compared(5, 0, 1, 0).ratio(1, 2));
        due(0, compared(5, 1, 120, 0).ratio(1, 2));
        due(1, compared(5, 1, 100, 0).ratio(1, 2));
        due(100, compared(5, 3, 0, 0).ratio(1, 1));
        due(1000, compared(1, 1, 1, 1).ratio(1, 2));
        due(99999992, compared(1, 1, 1, 6).ratio(1, 2));
        due(999999872, compared(1, 1, 1, 7).ratio(1, 2));
        due(1999999744, compared(1, 1, 5, 8).ratio(1, 2));
        changesNothing(y -> y.ratio(1, 3));
    }

    // Promise 30: "2147483647 if it is more;"
    static void ratioIsCapped() {
        due(1677721600, compared(5, 1, 1, 24).ratio(1, 2));
        due(2097152000, compared(5, 5, 1, 22).ratio(1, 2));
        due(2147483647, compared(5, 1, 1, 25).ratio(1, 2));
        due(2147483647, compared(5, 1, 1, 149).ratio(1, 2));
        due(2147483647, compared(5, 9, 1, 60).ratio(1, 2));
        due(0, compared(5, 1, 1, 149).ratio(2, 1));
    }

    // Promise 30: "-2: that of the second one is 0;"
    static void ratioByNothing() {
        due(-2, compared(5, 1, 0, 0).ratio(1, 2));
        due(-2, compared(5, 1, 1, 150).ratio(1, 2));
        due(-2, compared(5, 1, 1, 0).ratio(1, 3));
        due(-2, compared(5, 0, 0, 0).ratio(1, 1));
        due(-2, told(EIGHT).ratio(0, 0));
    }

    // Promise 30: "NONE: no such SPACES."
    static void ratioOfNoSuchSpaces() {
        for (int space : NO_SPACES) {
            due(NONE, compared(5, 1, 1, 0).ratio(space, 1));
            due(NONE, compared(5, 1, 1, 0).ratio(1, space));
        }
        due(NONE, new FrameHeirs().ratio(0, 0));
    }

    // Promise 31: "The fewest TICKS 0 .. 99 by which WARMTH would be less than 1;"
    static void ticksToCool() {
        int[] due = {0, 1, 2, 2, 3};
        for (int touches = 0; touches <= 4; touches++) {
            due(due[touches], compared(5, touches, 0, 0).cool(1));
        }
        due(0, compared(9, 0, 1, 1).cool(2));
        due(1, compared(1, 9, 0, 0).cool(1));
        due(2, compared(1, 10, 0, 0).cool(1));
        FrameHeirs root = told("decay 9;size 8;space r;");
        float age = 0f;
        for (int i = 0; i < 400; i++) {
            root.touch(0, 0, 1);
            age += 1f;
        }
        int ticks = 0;
        while (age * 8f >= 1f) {
            age *= 0.9f;
            ticks++;
        }
        due(ticks, root.cool(0));
        due(bits(400f), root.age(0, 0));
        changesNothing(y -> y.cool(1));
    }

    // Promise 31: "-2: more;"
    // No run of 512 calls is so warm: all calls, and 24 steps of a text, spent on touching root's eight pages make at most
    // 8 times 535, which are less than 1 after 80 ticks of the slowest decay; this is as near as a test can come to it.
    static void neverTooWarmToCool() {
        FrameHeirs x = told("decay 9;size 8;space r;" + "touch r 0 1;".repeat(24));
        due(24, x.run(24));
        for (int i = 0; i < 450; i++) {
            x.touch(0, i % 8, 1);
        }
        due(bits(474f), x.age(0, 0));
        float warmth = 474f * 8f;
        int ticks = 0;
        for (float age = 474f; age * 8f >= 1f; age *= 0.9f) {
            ticks++;
        }
        due(bits(warmth), x.warmth(0));
        due(ticks, x.cool(0));
    }

    // Promise 31: "NONE: no such SPACE."
    static void coolOfNoSuchSpace() {
        for (int space : NO_SPACES) {
            due(NONE, some().cool(space));
        }
        due(NONE, new FrameHeirs().cool(0));
    }

    // Promise 32: "KEPT;"
    static void keptOfSpaces() {
        FrameHeirs x = some();
        int[] due = {16, 16, 8, 16};
        for (int space = 0; space < 4; space++) {
            due(due[space], x.kept(space));
        }
        changesNothing(y -> y.kept(1));
    }

    // Promise 32: "NONE: no such SPACE."
    static void keptOfNoSuchSpace() {
        for (int space : NO_SPACES) {
            due(NONE, some().kept(space));
        }
        due(NONE, new FrameHeirs().kept(0));
    }

    /** Six jobs, each of a page of a's itself, with rights of its number and one. */
    private static FrameHeirs sixJobs() {
        FrameHeirs x = told("size 8;space r;space a;space b;");
        x.map(0, region(0, 3), 1, 0, 7);
        x.map(1, region(6, 0), 2, 0, 7);
        for (int k = 0; k < 6; k++) {
            x.flush(1, region(6 - k, 0), k + 1, true);
        }
        return x;
    }

    // Promise 33: "Of the k-th JOB (0 on), what 0 its SPACE, 1 its PLACE, 2 how many of its DEEDS aren't done yet, 3 RIGHTS;"
    static void jobsFromTheFirstToTheSixth() {
        FrameHeirs x = sixJobs();
        for (int k = 0; k < 6; k++) {
            due(1, x.job(k, 0));
            due(6 - k, x.job(k, 1));
            due(k == 0 ? 2 : 1, x.job(k, 2));
            due(k + 1, x.job(k, 3));
        }
        x.work(1);
        due(6, x.job(0, 1));
        due(1, x.job(0, 2));
        x.work(1);
        due(5, x.job(0, 1));
        due(2, x.job(0, 3));
        due(1, x.job(4, 1));
        due(NONE, x.job(5, 1));
        FrameHeirs large = some();
        due(2, large.job(0, 0));
        due(5, large.job(0, 1));
        due(1, large.job(0, 2));
        due(4, large.job(0, 3));
        changesNothing(y -> y.job(0, 2));
    }

    // Promise 33: "NONE: no such ones."
    static void jobOfNoSuchOnes() {
        for (int k : new int[] {-1, 6, 7, LEAST, MOST}) {
            due(NONE, sixJobs().job(k, 0));
        }
        for (int what : new int[] {-1, 4, 5, LEAST, MOST}) {
            due(NONE, sixJobs().job(0, what));
            due(NONE, sixJobs().job(5, what));
        }
        due(NONE, some().job(1, 0));
        due(NONE, told(EIGHT).job(0, 0));
        due(NONE, new FrameHeirs().job(0, 0));
    }

    // Promise 34: "Of a SPACE, what 0 whether it WAITS (1, 0), 1 the PLACE, 2 the right, 3 how many WAIT for the same PAGER
    // ahead of it;"
    static void whoWaits() {
        FrameHeirs x = told("size 32;space r;space a;space b;space c;space d;space e;pager a r 0;pager b r 0;pager c r 0;pager d r 0;"
            + "pager e r 0;");
        for (int space = 5; space >= 1; space--) {
            due(0, x.waits(space, 0));
            x.touch(space, 26 + space, 4);
            due(1, x.waits(space, 0));
            due(26 + space, x.waits(space, 1));
            due(4, x.waits(space, 2));
            due(5 - space, x.waits(space, 3));
        }
        x.serve(0);
        due(0, x.waits(5, 0));
        for (int space = 4; space >= 1; space--) {
            due(4 - space, x.waits(space, 3));
        }
        x.touch(5, 0, 1);
        due(4, x.waits(5, 3));
        due(0, x.waits(5, 1));
        due(1, x.waits(5, 2));
        due(0, x.waits(0, 0));
        changesNothing(y -> y.waits(1, 0));
    }

    // Promise 34: "-2 of 1 .. 3: it doesn't WAIT."
    static void whoDoesNotWait() {
        for (int space = 0; space < 4; space++) {
            due(0, some().waits(space, 0));
            for (int what = 1; what <= 3; what++) {
                due(-2, some().waits(space, what));
            }
        }
        FrameHeirs x = some();
        x.touch(1, 7, 1);
        x.serve(0);
        due(0, x.waits(1, 0));
        due(-2, x.waits(1, 1));
    }

    // Promise 34: "NONE: no such ones."
    static void waitsOfNoSuchOnes() {
        FrameHeirs x = some();
        x.touch(1, 7, 1);
        for (int what : new int[] {-1, 4, 5, LEAST, MOST}) {
            due(NONE, x.waits(0, what));
            due(NONE, x.waits(1, what));
        }
        for (int space : NO_SPACES) {
            for (int what = 0; what <= 3; what++) {
                due(NONE, x.waits(space, what));
            }
        }
        due(NONE, new FrameHeirs().waits(0, 0));
    }

    // Promise 35: "Of DEEDS BENEATH those in a REGION (BENEATH the one of a greater ORDER, if such is there), each once, what 0
    // how many pages in all have FRAMES that the REGION has, 1 how many SPACES have such ones;"
    static void whatWouldBeLost() {
        int[][] due = {{0, 0, 0, 0}, {0, 2, 0, 0}, {4, 2, 8, 3}, {6, 0, 4, 3}, {7, 0, 2, 2}, {4, 1, 2, 1}, {6, 1, 6, 3}, {0, 3, 8, 3}};
        for (int[] row : due) {
            due(row[2], some().lost(0, region(row[0], row[1]), 0));
            due(row[3], some().lost(0, region(row[0], row[1]), 1));
        }
        due(4, some().lost(1, region(0, 2), 0));
        due(2, some().lost(1, region(0, 2), 1));
        due(4, some().lost(1, region(0, 3), 0));
        due(3, some().lost(1, region(2, 0), 0));
        due(0, some().lost(1, region(0, 1), 0));
        due(0, some().lost(1, region(0, 1), 1));
        FrameHeirs twice = told(EIGHT);
        twice.map(0, region(0, 0), 1, 0, 7);
        twice.map(1, region(0, 0), 2, 0, 7);
        twice.map(2, region(0, 0), 1, 1, 7);
        twice.map(1, region(1, 0), 3, 0, 7);
        due(3, twice.lost(1, region(0, 1), 0));
        due(3, twice.lost(1, region(0, 1), 1));
        due(1, twice.lost(1, region(1, 0), 0));
        FrameHeirs beside = told(EIGHT);
        for (int place = 2; place <= 5; place++) {
            beside.map(0, region(0, 0), 1, place, 7);
            beside.map(1, region(place, 0), 2, place, 7);
            beside.map(1, region(place, 0), 3, place, 7);
        }
        due(2, beside.lost(1, region(3, 0), 0));
        due(2, beside.lost(1, region(4, 0), 0));
        due(4, beside.lost(1, region(2, 1), 0));
        due(4, beside.lost(1, region(4, 2), 0));
        changesNothing(y -> y.lost(0, region(6, 0), 0));
        changesNothing(y -> y.lost(0, region(6, 0), 1));
    }

    // Promise 35: "-2: no DEED is in the REGION;"
    static void nothingToLose() {
        for (int what = 0; what <= 1; what++) {
            due(-2, some().lost(1, region(4, 0), what));
            due(-2, some().lost(1, region(4, 2), what));
            due(-2, some().lost(2, region(4, 0), what));
            due(-2, some().lost(2, region(6, 1), what));
            due(-2, told(EIGHT).lost(1, region(0, 3), what));
        }
    }

    // Promise 35: "NONE: no such ones."
    static void lostOfNoSuchOnes() {
        for (int space : NO_SPACES) {
            due(NONE, some().lost(space, 0, 0));
        }
        for (int region : new int[] {-1, -4, region(8, 0), region(1, 1), region(2, 2), region(4, 3), LEAST, MOST}) {
            due(NONE, some().lost(0, region, 0));
        }
        for (int what : new int[] {-1, 2, 3, LEAST, MOST}) {
            due(NONE, some().lost(0, 0, what));
            due(NONE, some().lost(1, region(4, 0), what));
        }
        due(NONE, new FrameHeirs().lost(0, 0, 0));
    }

    // Promise 36: "How many STEPS a flush() of RIGHTS 7, not itself, would have as all is now, or its answer below 0."
    static void stepsAsFlushWouldAnswer() {
        Supplier<FrameHeirs> full = EdgesOfQuestionsTest::sixJobs;
        Supplier<FrameHeirs> over = then(full, x -> x.work(99));
        for (Supplier<FrameHeirs> before : java.util.List.of(EdgesOfQuestionsTest::some, full, over)) {
            for (int space = -1; space <= 4; space++) {
                for (int region = -1; region <= 33; region++) {
                    due(before.get().flush(space, region, 7, false), before.get().steps(space, region));
                }
            }
        }
        due(NONE, some().steps(0, MOST));
        due(NONE, some().steps(0, LEAST));
        due(-3, some().steps(0, region(4, 2)));
        due(-2, some().steps(1, region(4, 2)));
        due(-5, sixJobs().steps(1, region(7, 0)));
        due(0, told(EIGHT).steps(0, region(0, 3)));
        due(160, chain().steps(0, region(7, 0)));
        due(NONE, new FrameHeirs().steps(0, 0));
        changesNothing(y -> y.steps(0, region(0, 0)));
        changesNothing(y -> y.steps(1, region(0, 0)));
    }

    // Promise 37: "What would be, 0 how many pages all SPACES have, if it were SETTLED, 1 how many would be REFUSED by that,"
    static void triedToSettle() {
        Supplier<FrameHeirs> before = run(EIGHT + "space d;pager a r 0;pager b a 0;pager d c 0;quota a 1;", x -> {
            x.map(0, region(7, 0), 1, 7, 7);
            x.map(1, region(7, 0), 3, 7, 7);
            x.touch(4, 1, 1);
            x.serve(3);
            x.touch(4, 2, 1);
            x.touch(2, 5, 1);
        });
        FrameHeirs x = before.get();
        due(1, x.count(9));
        due(10, x.count(3));
        due(10, x.tried(0));
        due(1, x.tried(1));
        due(10, x.count(3));
        due(2, x.settle());
        due(10, x.count(3));
        due(2, x.count(9));
        due(0, x.tried(1));
        due(0, new FrameHeirs().tried(0));
        due(0, new FrameHeirs().tried(1));
        due(1, before.get().tried(1));
        due(1, then(before, y -> y.churn(1, 20)).get().tried(1));
        due(10, then(before, y -> y.churn(1, 20)).get().tried(0));
        alike(before, then(before, y -> y.tried(0)));
        alike(before, then(before, y -> y.tried(1)));
    }

    // Promise 37: "2 how many STEPS of WORK all JOBS have yet, 3 how many pages all SPACES have, if these were done,"
    static void triedToWork() {
        FrameHeirs x = sixJobs();
        due(7, x.tried(2));
        due(17, x.tried(3));
        x.work(2);
        due(5, x.tried(2));
        due(17, x.count(3));
        FrameHeirs gone = told("size 32;space r;space a;space b;space c;space d;");
        for (int place = 0; place < 8; place++) {
            for (int i = 0; i < 16; i++) {
                gone.map(0, region(place, 0), 1 + i / 4, 4 * place + i % 4, 7);
            }
        }
        gone.flush(0, region(0, 3), 7, false);
        due(128, gone.tried(2));
        due(32, gone.tried(3));
        due(160, gone.count(3));
        gone.work(99);
        due(29, gone.tried(2));
        due(0, told(EIGHT).tried(2));
        due(8, told(EIGHT).tried(3));
        changesNothing(y -> y.tried(2));
        changesNothing(y -> y.tried(3));
    }

    // Promise 37: "4 how many DEEDS, if each SPACE (by numbers) were TIDIED;"
    static void triedToTidy() {
        FrameHeirs down = told(EIGHT);
        down.map(0, region(0, 1), 1, 0, 7);
        down.flush(0, region(0, 0), 1, false);
        due(1, down.tried(2));
        down.work(9);
        down.flush(0, region(1, 0), 1, false);
        down.work(9);
        due(6, down.count(2));
        due(2, down.tried(4));
        FrameHeirs up = told(EIGHT);
        up.map(0, region(0, 1), 2, 0, 7);
        up.map(2, region(0, 1), 1, 0, 7);
        up.flush(2, region(0, 0), 1, false);
        up.work(9);
        up.flush(2, region(1, 0), 1, false);
        up.work(9);
        due(5, up.count(2));
        due(4, up.tried(4));
        due(5, up.count(2));
        changesNothing(y -> y.tried(4));
    }

    // Promise 37: "NONE for another what."
    static void triedAnotherWhat() {
        for (int what : new int[] {-1, 5, 6, LEAST, MOST}) {
            due(NONE, some().tried(what));
            due(NONE, new FrameHeirs().tried(what));
        }
    }

    // Terms 3: "DRAW: the last number (at first the seed) times 1103515245, and 12345 more, without what is above 31 bits, is the
    // next one; it by 65536, rounded down, is drawn."
    static void draws() {
        for (int size = 8; size <= 32; size *= 2) {
            FrameHeirs x = told("size " + size + ";space r;space a;space b;");
            int[][] rights = new int[3][size];
            for (int place = 0; place < size; place++) {
                rights[0][place] = 7;
                for (int space = 1; space < 3; space++) {
                    int given = (3 * place + 5 * space) % 8;
                    rights[space][place] = given;
                    if (given != 0) {
                        x.map(0, region(place, 0), space, place, given);
                    }
                }
            }
            for (int seed : new int[] {0, 1, 2, 65535, 65536, 99999, 1 << 30, 2147483646, 2147483647, 1804289383}) {
                for (int n = 1; n <= 20; n++) {
                    due(drawn(seed, n, rights), x.churn(seed, n));
                }
            }
        }
    }

    /** How many of n draws of a space, a place and a right hit, if nobody has a pager. */
    private static int drawn(int seed, int n, int[][] rights) {
        long last = seed;
        int hits = 0;
        for (int i = 0; i < n; i++) {
            long[] draws = new long[3];
            for (int j = 0; j < 3; j++) {
                last = (last * 1103515245L + 12345L) % 2147483648L;
                draws[j] = last / 65536L;
            }
            int[] ofSpace = rights[(int) (draws[0] % rights.length)];
            int right = new int[] {1, 2, 4}[(int) (draws[2] % 3)];
            hits += (ofSpace[(int) (draws[1] % ofSpace.length)] & right) == 0 ? 0 : 1;
        }
        return hits;
    }

    // Terms 3: "CHURN n: n times: a SPACE (a DRAW modulo how many), a PLACE (a DRAW modulo size), a right (1, 2, 4: a DRAW
    // modulo 3): touched, if it doesn't WAIT; then SETTLE."
    static void churnTouchesAndSettles() {
        FrameHeirs served = told("size 8;space r;space a;pager a r 0;");
        FrameHeirs stuck = told("size 8;space r;space a;space b;pager a b 0;pager b a 0;");
        stuck.map(0, region(0, 2), 1, 0, 7);
        stuck.map(0, region(0, 2), 2, 0, 7);
        for (int seed = 0; seed < 12; seed++) {
            for (int n = 1; n <= 20; n++) {
                long last = seed;
                int[] had = new int[8];
                int hits = 0;
                int stuckHits = 0;
                boolean waiting = false;
                for (int i = 0; i < n; i++) {
                    int[] draws = new int[3];
                    for (int j = 0; j < 3; j++) {
                        last = (last * 1103515245L + 12345L) % 2147483648L;
                        draws[j] = (int) (last / 65536L);
                    }
                    int place = draws[1] % 8;
                    int right = 1 << draws[2] % 3;
                    if (draws[0] % 2 == 0 || (had[place] & right) != 0) {
                        hits++;
                    } else {
                        had[place] = right | 1;
                    }
                    if (draws[0] % 3 == 0 || !waiting && place < 4) {
                        stuckHits++;
                    } else {
                        waiting = true;
                    }
                }
                due(hits, served.churn(seed, n));
                due(stuckHits, stuck.churn(seed, n));
            }
        }
    }

    // Promise 38: "CHURN n 1 .. 20 from a seed 0 .. 2147483647 on (-1: that of the TEXT) would have how many HITS;"
    static void churnFromSeeds() {
        FrameHeirs x = told("size 8;seed 7;space r;space a;");
        int[][] rights = {{7, 7, 7, 7, 7, 7, 7, 7}, new int[8]};
        for (int seed : new int[] {0, 1, 2147483647}) {
            due(drawn(seed, 1, rights), x.churn(seed, 1));
            due(drawn(seed, 20, rights), x.churn(seed, 20));
        }
        for (int n = 1; n <= 20; n++) {
            due(drawn(7, n, rights), x.churn(-1, n));
            due(drawn(7, n, rights), x.churn(-1, n));
        }
        changesNothing(y -> y.churn(5, 20));
        changesNothing(y -> y.churn(-1, 20));
    }

    // Promise 38: "-2: there are no SPACES;"
    static void churnWithoutSpaces() {
        for (int n : new int[] {1, 20}) {
            due(-2, new FrameHeirs().churn(0, n));
            due(-2, new FrameHeirs().churn(-1, n));
            due(-2, told("size 8;").churn(1, n));
            due(1, Math.min(1, told("space r;").churn(1, n)));
        }
    }

    // Promise 38: "NONE: no such ones."
    static void churnOfNoSuchOnes() {
        for (int n : new int[] {0, -1, 21, 22, LEAST, MOST}) {
            due(NONE, some().churn(1, n));
            due(NONE, new FrameHeirs().churn(1, n));
        }
        for (int seed : new int[] {-2, -3, LEAST}) {
            due(NONE, some().churn(seed, 1));
            due(NONE, new FrameHeirs().churn(seed, 1));
        }
    }
}
