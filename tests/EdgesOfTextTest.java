import java.util.Arrays;
import java.util.function.Supplier;

/**
 * The edges of promises 1 to 5 and of the text's language. The remark ahead of each test says to which sentence of the
 * document it belongs.
 */
final class EdgesOfTextTest extends Probe {
    private static final String WORDS = "space pager quota size budget decay seed map grant flush touch serve";
    private static final String AHEAD = "space a;space b;space c;";
    /** Each kind of a line, as it may stand behind AHEAD. */
    private static final String[] LINES = {"space d", "pager b a 0", "quota b 5", "size 8", "budget 1", "decay 1", "seed 1",
        "map a 0 b 0 0 7", "grant a 0 b 0 0", "flush a 0 0 7 0", "touch a 0 1", "serve a"};
    /** A text of which all that a new text must end can be done. */
    private static final String BUSY_TEXT = "size 8;budget 0;space r;space a;space b;pager b r 0;map r 0 a 0 2 7;flush r 0 2 3 0;";

    private EdgesOfTextTest() {
    }

    public static void main(String[] args) {
        runAll(EdgesOfTextTest.class);
    }

    /** Steps done, a job, one who waits, faults, refusals, splits and work counted, lines wide, calls to undo. */
    private static void useAll(FrameHeirs x) {
        x.run(2);
        x.touch(0, 3, 1);
        x.touch(2, 5, 4);
        x.grant(0, region(5, 0), 1, 5);
        x.serve(0);
        x.work(1);
        x.touch(2, 6, 1);
        x.map(0, region(6, 1), 1, 6, 7);
        x.flush(0, region(6, 0), 1, false);
    }

    // Promise 1: "No SPACES;"
    static void aNewObjectHasNoSpaces() {
        FrameHeirs x = new FrameHeirs();
        due(0, x.count(0));
        due(0, x.count(2));
        due(0, x.count(3));
        due(NONE, x.named(packed("a")));
        due(NONE, x.touch(0, 0, 1));
        due(NONE, x.kept(0));
        due(INDEX, deed(x, 0, 0, 0));
        due(-2, x.churn(1, 1));
    }

    // Promise 1: "an empty TAPE."
    static void aNewObjectHasAnEmptyTape() {
        FrameHeirs x = new FrameHeirs();
        due(-2, x.text(1));
        due(20, x.feed(0, 0, 0, 0, 0));
        due(0, new FrameHeirs().text(0));
    }

    // Promise 2: "Twenty bytes come behind the TAPE, four of each number, the highest first: how many it has;"
    static void eachByteComesToItsPlace() {
        for (int at = 0; at < 40; at++) {
            byte[] row = new byte[40];
            Arrays.fill(row, (byte) 32);
            row[at] = (byte) 193;
            FrameHeirs x = new FrameHeirs();
            due(20, feedRow(x, row, 0));
            due(40, feedRow(x, row, 20));
            due(NONE, x.text(40));
            due(1, x.fault(0));
            due(at, x.fault(1));
        }
    }

    // Promise 2: "NONE, and none come, if it would have more than 700."
    static void theTapeHas700BytesAtMost() {
        byte[] row = "size 8;             ".getBytes();
        FrameHeirs x = new FrameHeirs();
        for (int fed = 20; fed <= 700; fed += 20) {
            due(fed, feedRow(x, fed == 20 ? row : new byte[0], 0));
        }
        due(NONE, feedRow(x, row, 0));
        due(NONE, x.feed(-1, -1, -1, -1, -1));
        due(-2, x.text(701));
        due(1, x.text(700));
        due(20, feedRow(x, row, 0));
    }

    // Promise 3: "The TAPE's first n bytes (it is empty then) are the TEXT"
    static void onlyTheFirstBytesAreTheText() {
        FrameHeirs x = new FrameHeirs();
        feedAll(x, "space a;space b;?");
        due(1, x.text(8));
        due(1, x.count(0));
        due(-2, x.text(1));
        due(20, x.feed(0, 0, 0, 0, 0));
        due(0, x.text(0));
        due(0, x.count(0));
        due(-2, x.text(1));
    }

    // Promise 3: "(no STEP done, no JOBS, nobody WAITS, nothing counted, nothing to undo then)"
    static void aTextBeginsAnew() {
        Supplier<FrameHeirs> used = run(BUSY_TEXT, EdgesOfTextTest::useAll);
        FrameHeirs x = used.get();
        for (int what : new int[] {4, 6, 7, 8, 9, 10, 12}) {
            due(1, Math.min(1, x.count(what)));
        }
        due(1, x.waits(2, 0));
        due(BUSY_TEXT.split(";").length, tell(x, BUSY_TEXT));
        for (int what : new int[] {4, 6, 7, 8, 9, 10, 12}) {
            due(0, x.count(what));
        }
        due(0, x.waits(2, 0));
        due(-9, x.answer(0));
        due(NONE, x.undo());
        alike(() -> told(BUSY_TEXT), then(used, y -> tell(y, BUSY_TEXT)));
    }

    // Promise 3: "nothing counted, nothing to undo then)"
    static void eachOfManyTextsBeginsAnew() {
        String full = "size 32;budget 0;decay 1;seed 9;space r;space a;space b;quota a 3;pager a b 3;pager b r 1;serve a;serve b;";
        String broken = "size 8;budget 9;decay 9;seed 8;space q;space a;quota a 5;quota q 5;pager a q 2;serve a;serve";
        String plain = "space r;space a;space b;quota b 7;map r 0 a 0 0 7;map r 1 a 1 0 7;map r 2 a 2 0 7;flush r 0 3 7 0;";
        Supplier<FrameHeirs> first = then(() -> told(plain), EdgesOfTextTest::usePlain);
        String[][] ahead = {{full}, {full, full}, {broken}, {full, broken}, {full, full, broken, plain}, {plain, plain, full, broken, full}};
        for (String[] texts : ahead) {
            alike(first, () -> {
                FrameHeirs x = new FrameHeirs();
                for (String text : texts) {
                    tell(x, text);
                    x.run(2);
                    x.touch(1, 0, 1);
                }
                due(8, tell(x, plain));
                usePlain(x);
                return x;
            });
        }
    }

    private static void usePlain(FrameHeirs x) {
        x.touch(0, 0, 1);
        x.run(4);
        x.tick();
        x.touch(2, 0, 1);
        x.map(0, region(8, 3), 1, 8, 7);
    }

    // Promise 3: "how many LINES;"
    static void linesAreCounted() {
        noFault(0, "");
        noFault(0, " \n ");
        noFault(1, "seed 0;");
        noFault(2, "seed 0;size 8;");
        StringBuilder longest = new StringBuilder("size 8;budget 9;decay 9;seed 0;");
        for (char name = 'a'; name <= 'f'; name++) {
            longest.append("space ").append(name).append(";quota ").append(name).append(" 1;");
            longest.append(name == 'a' ? "" : "pager " + name + " a 0;");
        }
        noFault(45, longest.append("serve a;".repeat(24)).toString());
    }

    // Promise 3: "NONE with a FAULT, all else stays;"
    static void aFaultyTextChangesNothingElse() {
        Supplier<FrameHeirs> used = run(BUSY_TEXT, EdgesOfTextTest::useAll);
        for (String text : new String[] {"?", "size 32;space q;space q;", "size 32;decay 1;space q;serve q;space ", "seed 7;quota a 1;"}) {
            FrameHeirs x = used.get();
            int undoable = x.count(12);
            due(NONE, tell(x, text));
            due(undoable, x.count(12));
            due(undoable - 1, x.undo());
            due(-2, x.text(1));
            alike(used, then(used, y -> tell(y, text)));
        }
    }

    // Promise 3: "-2, and the TAPE stays: there are not so many, n is below 0."
    static void aTextOfMoreThanThereIsLeavesTheTape() {
        Supplier<FrameHeirs> used = run(BUSY_TEXT, EdgesOfTextTest::useAll);
        for (int n : new int[] {21, 701, MOST, -1, LEAST}) {
            Supplier<FrameHeirs> fed = then(used, y -> feedAll(y, "space q;space r;    "));
            FrameHeirs x = fed.get();
            due(-2, x.text(n));
            due(2, x.text(20));
            due(0, x.named(packed("q")));
            alike(fed, then(fed, y -> y.text(n)));
        }
    }

    // Promise 4: "Of the latest text() that was not -2, what 0: its FAULT (0), 1: its place (NONE without)."
    static void theFaultIsOfTheLatestText() {
        FrameHeirs x = new FrameHeirs();
        due(0, x.fault(0));
        due(NONE, x.fault(1));
        tell(x, "size 9;");
        due(2, x.fault(0));
        due(5, x.fault(1));
        due(-2, x.text(1));
        due(-2, x.text(-1));
        due(2, x.fault(0));
        due(5, x.fault(1));
        tell(x, "?");
        due(1, x.fault(0));
        due(0, x.fault(1));
        tell(x, "size 8;");
        due(0, x.fault(0));
        due(NONE, x.fault(1));
        due(-2, x.text(1));
        due(0, x.fault(0));
        tell(x, "size 8;size 8;");
        due(3, x.fault(0));
        due(0, x.text(0));
        due(0, x.fault(0));
        due(NONE, x.fault(1));
    }

    // Promise 4: "NONE for another what."
    static void anotherWhatOfFault() {
        FrameHeirs x = new FrameHeirs();
        for (int i = 0; i < 2; i++) {
            for (int what : new int[] {-1, 2, MOST, LEAST}) {
                due(NONE, x.fault(what));
            }
            tell(x, "size 8;size 8;");
        }
    }

    // Promise 5: "The number of a SPACE by its letters, 5 bits each (a is 1; the first one highest of six, 0 behind the last
    // one);"
    static void namesFromTheFirstLetterToTheLast() {
        FrameHeirs x = told("space a;space z;space aa;space zzzzzz;space abcdef;space abcde;");
        due(0, x.named(1 << 25));
        due(1, x.named(26 << 25));
        due(2, x.named(1 << 25 | 1 << 20));
        due(3, x.named(26 << 25 | 26 << 20 | 26 << 15 | 26 << 10 | 26 << 5 | 26));
        due(4, x.named(1 << 25 | 2 << 20 | 3 << 15 | 4 << 10 | 5 << 5 | 6));
        due(5, x.named(1 << 25 | 2 << 20 | 3 << 15 | 4 << 10 | 5 << 5));
    }

    // Promise 5: "NONE: there is none such."
    static void noSuchName() {
        FrameHeirs x = told("space a;space abcdef;");
        int[] others = {0, 1, -1, LEAST, MOST, 1 << 20, 2 << 25, 1 << 25 | 1, 1 << 25 | 1 << 30, 1 << 25 | 1 << 31,
            packed("abcde"), packed("abcdeg"), packed("space"), packed("b")};
        for (int letters : others) {
            due(NONE, x.named(letters));
        }
        due(0, x.named(1 << 25));
        tell(x, "space b;");
        due(NONE, x.named(1 << 25));
        due(NONE, x.named(packed("abcdef")));
        due(NONE, new FrameHeirs().named(0));
    }

    // Terms 1: "A TEXT: { LINE ';' }."
    static void aTextIsLinesEachWithASemicolon() {
        noFault(0, "");
        fault(1, "^;");
        fault(1, "space a;^;");
        fault(1, "space a;^;space b;");
        fault(1, "space a ^space b;");
        for (String line : LINES) {
            noFault(4, AHEAD + line + ";");
            noFault(4, AHEAD + line + " ; ");
        }
    }

    // Terms 1: "LINE: space W | pager W W N | quota W N | size N | budget N | decay N | seed N | map W N W N N N | grant W N W N
    // N | flush W N N N N | touch W N N | serve W."
    static void eachLineHasItsTokens() {
        for (String line : LINES) {
            String[] tokens = line.split(" ");
            StringBuilder before = new StringBuilder(AHEAD).append(tokens[0]).append(' ');
            for (int i = 1; i < tokens.length; i++) {
                boolean name = Character.isLetter(tokens[i].charAt(0));
                String rest = line.substring(line.indexOf(' ' + tokens[i]) + 1 + tokens[i].length()) + ";";
                for (String other : new String[] {name ? "7" : "x", "map", "abcdefg", "%", ";"}) {
                    fault(1, before + "^" + other + rest);
                }
                before.append(tokens[i]).append(' ');
            }
            fault(1, before + "^x;");
            fault(1, before + "^7;");
            fault(1, before + "^" + tokens[0] + ";");
        }
    }

    // Terms 1: "Words: small letters in a row;"
    static void wordsAreOfSmallLettersAlone() {
        for (int sign = 0; sign < 256; sign++) {
            String text = "space " + (char) sign + ";";
            if (sign >= 'a' && sign <= 'z') {
                noFault(1, text);
            } else if (sign != 10 && sign != 32) {
                fault(1, "space ^" + (char) sign + ";");
            }
        }
        fault(1, "^spac e a;");
        fault(1, "^Space a;");
        fault(1, "space a^A;");
        fault(1, "^spacea;");
    }

    // Terms 1: "W: one of 1 .. 6 letters, none of those of the language;"
    static void namesHaveOneToSixLetters() {
        noFault(2, "space a;space abcdef;");
        fault(1, "space ^abcdefg;");
        fault(1, "space abcdef;quota ^abcdefg 5;");
        fault(1, "space ^;");
        fault(1, "space ^" + "z".repeat(80) + ";");
        for (String word : WORDS.split(" ")) {
            fault(1, "space ^" + word + ";");
            fault(1, "space a;quota ^" + word + " 5;");
            noFault(1, "space " + word.substring(0, word.length() - 1) + ";");
        }
        noFault(1, "space maps;");
    }

    // Terms 1: "N: digits."
    static void numbersAreOfDigitsAlone() {
        for (int sign = 0; sign < 256; sign++) {
            if (sign >= '0' && sign <= '9') {
                noFault(1, "seed " + (char) sign + ";");
            } else if (sign != 10 && sign != 32) {
                fault(1, "seed ^" + (char) sign + ";");
            }
        }
        fault(1, "seed 1^.0;");
        fault(1, "seed ^-1;");
        fault(1, "seed 1 ^1;");
        noFault(1, "seed 000000000000000099999;");
    }

    // Terms 1: "Blanks 10, 32."
    static void onlyTwoSignsAreBlanks() {
        for (int sign = 0; sign < 256; sign++) {
            if (sign == 10 || sign == 32) {
                noFault(1, (char) sign + "space" + (char) sign + "a" + (char) sign + ";" + (char) sign);
            } else {
                fault(1, "space a;^" + (char) sign);
            }
        }
        noFault(2, "space a;map a0a0 0 7;");
        noFault(1, "size8;");
    }

    // Terms 1: "SPACES, at most 6: names; numbered from 0 on as they come; the first one is ROOT."
    static void sixSpacesAreNumberedAsTheyCome() {
        FrameHeirs x = told("space f;space a;space e;serve a;space b;space d;space c;");
        String names = "faebdc";
        due(6, x.count(0));
        for (int space = 0; space < 6; space++) {
            due(space, x.named(packed(names.substring(space, space + 1))));
            due(space == 0 ? 32 : 0, x.kept(space));
        }
        due(NONE, x.kept(6));
    }

    // Terms 1: "pager: of a SPACE its PAGER, a SPACE, and its WAY 0 .. 3 (without: it has none)."
    static void pagersAndTheirWays() {
        accepted("pager b a ", ";", 0, 3);
        FrameHeirs x = told("size 8;space r;space a;space b;space c;space d;space e;pager a r 0;pager b r 1;pager c r 2;"
            + "pager d r 3;");
        int[] frames = {3, 7, 4, 0};
        for (int space = 1; space <= 4; space++) {
            due(-2, x.touch(space, 3, 1));
            due(frames[space - 1], x.serve(0));
        }
        due(-3, x.touch(5, 3, 1));
        due(-2, x.serve(0));
    }

    // Terms 1: "quota: of a SPACE 1 .. 32 pages it may have at most (without: 32; ROOT's isn't looked at)."
    static void quotasAndWithout() {
        accepted("quota b ", ";", 1, 32);
        FrameHeirs x = told("size 32;space r;space a;space b;space c;quota r 1;quota a 1;quota b 32;");
        due(1, x.free(1));
        due(32, x.free(2));
        due(32, x.free(3));
        due(-6, x.map(0, region(0, 1), 1, 0, 7));
        due(1, x.map(0, region(0, 0), 1, 0, 7));
        due(-6, x.map(0, region(0, 0), 1, 1, 7));
        for (int place = 0; place < 32; place += 8) {
            due(1, x.map(0, region(place, 3), 3, place, 7));
        }
        due(0, x.free(3));
        due(1, x.grant(0, region(0, 3), 2, 0));
        due(8, x.free(0));
        due(1, x.map(2, region(0, 3), 0, 0, 7));
        due(0, x.free(0));
    }

    // Terms 1: "size: 8, 16 or 32 (16) FRAMES, as many PLACES has each SPACE."
    static void threeSizes() {
        for (int size = 0; size <= 65; size++) {
            String text = "size ^" + size + ";space r;space a;";
            if (size == 8 || size == 16 || size == 32) {
                FrameHeirs x = told(text.replace("^", ""));
                due(size, x.count(1));
                due(size, x.count(3));
                due(size, x.free(1));
                due(1, x.holds(size - 1, 7));
                due(NONE, x.holds(size, 7));
                due(-2, deed(x, 1, size - 1, 0));
                due(INDEX, deed(x, 1, size, 0));
            } else {
                fault(2, text);
            }
        }
        due(16, told("space r;").count(1));
        due(32, told("size 32;").count(1));
        due(16, new FrameHeirs().count(1));
    }

    // Terms 1: "budget: 0 .. 9 (2)."
    static void budgets() {
        accepted("budget ", ";", 0, 9);
        for (int budget = -1; budget <= 9; budget++) {
            FrameHeirs x = told((budget < 0 ? "" : "budget " + budget + ";") + "size 8;space r;space a;space b;flush r 0 3 7 0;");
            for (int place = 0; place < 8; place++) {
                x.map(0, region(place, 0), 1, place, 7);
                x.map(0, region(place, 0), 2, place, 7);
            }
            due(1, x.run(1));
            due(16, x.answer(0));
            due(budget < 0 ? 2 : budget, x.count(10));
        }
    }

    // Terms 1: "decay: 1 .. 9 (5)."
    static void decays() {
        accepted("decay ", ";", 1, 9);
        float[] tenths = {0.5f, 0.1f, 0.2f, 0.3f, 0.4f, 0.5f, 0.6f, 0.7f, 0.8f, 0.9f};
        for (int decay = 0; decay <= 9; decay++) {
            FrameHeirs x = told((decay == 0 ? "" : "decay " + decay + ";") + "space r;");
            x.touch(0, 0, 1);
            x.tick();
            due(bits(tenths[decay]), x.age(0, 0));
        }
    }

    // Terms 1: "seed: 0 .. 99999 (0)."
    static void seeds() {
        noFault(1, "seed 0;");
        noFault(1, "seed 99999;");
        for (String number : new String[] {"100000", "100001", "2147483647", "2147483648", "4294967296", "4295067295"}) {
            fault(2, "seed ^" + number + ";");
        }
        String rest = "size 8;space r;space a;space b;pager a r 0;";
        int unlike = 0;
        for (int seed : new int[] {0, 1, 2, 3, 4, 5, 77, 99998, 99999}) {
            FrameHeirs x = told("seed " + seed + ";" + rest);
            for (int n = 1; n <= 20; n++) {
                due(x.churn(seed, n), x.churn(-1, n));
                due(x.churn(0, n), told(rest).churn(-1, n));
                unlike += x.churn(0, n) == x.churn(-1, n) ? 0 : 1;
            }
        }
        due(1, Math.min(1, unlike));
    }

    // Terms 1: "STEPS (map, grant, flush, touch, serve), at most 24: as the calls of the same names; of map the SPACE, its
    // PLACE, the other one, its PLACE, ORDER, RIGHTS; of grant likewise without RIGHTS; of flush the SPACE, PLACE, ORDER,
    // RIGHTS, itself; of touch the SPACE, PLACE, right;"
    static void stepsAreAsTheCalls() {
        FrameHeirs x = told("budget 0;space r;space a;space b;pager a r 0;map r 4 a 8 2 5;grant r 8 b 12 1;flush a 8 1 4 1;"
            + "flush a 10 1 4 0;touch b 13 4;touch a 3 2;serve r;");
        due(7, x.count(5));
        due(7, x.run(7));
        int[] answers = {1, 1, 1, 0, 9, -2, 3};
        for (int step = 0; step < 7; step++) {
            due(answers[step], x.answer(step));
        }
        due(4, deed(x, 1, 8, 0));
        due(5, deed(x, 1, 8, 1));
        due(1, deed(x, 1, 8, 2));
        due(8, deed(x, 2, 12, 0));
        due(1, deed(x, 2, 12, 2));
        due(-2, deed(x, 0, 8, 0));
        due(1, x.job(0, 0));
        due(8, x.job(0, 1));
        due(1, x.job(0, 2));
        due(4, x.job(0, 3));
        due(bits(1f), x.age(2, 13));
        due(3, deed(x, 1, 3, 1));
    }

    // Terms 1: "places 0 .. 31, ORDERS 0 .. 3, RIGHTS 1 .. 7, itself 0 or 1, a right 1 .. 4."
    static void numbersOfSteps() {
        accepted("map a ", " b 0 0 7;", 0, 31);
        accepted("map a 0 b ", " 0 7;", 0, 31);
        accepted("map a 0 b 0 ", " 7;", 0, 3);
        accepted("map a 0 b 0 0 ", ";", 1, 7);
        accepted("grant a ", " b 0 0;", 0, 31);
        accepted("grant a 0 b ", " 0;", 0, 31);
        accepted("grant a 0 b 0 ", ";", 0, 3);
        accepted("flush a ", " 0 7 0;", 0, 31);
        accepted("flush a 0 ", " 7 0;", 0, 3);
        accepted("flush a 0 0 ", " 0;", 1, 7);
        accepted("flush a 0 0 7 ", ";", 0, 1);
        accepted("touch a ", " 1;", 0, 31);
        accepted("touch a 0 ", ";", 1, 4);
    }

    /** Of all numbers in the gap of a line just those from low to high are no fault. */
    private static void accepted(String before, String after, int low, int high) {
        for (int number = 0; number <= 40; number++) {
            if (number >= low && number <= high) {
                noFault(4, AHEAD + before + number + after);
            } else {
                fault(2, AHEAD + before + "^" + number + after);
            }
        }
        noFault(4, AHEAD + before + "00000000000" + low + after);
        for (String great : new String[] {"100", "2147483647", "2147483648", "429496729" + (6 + low), "1844674407370955161" + (6 + low),
            "1" + "0".repeat(60) + low}) {
            fault(2, AHEAD + before + "^" + great + after);
        }
    }

    // Terms 1: "FAULTS, the first along the text (of one place the least), with its place:"
    static void theFirstFaultAlongTheText() {
        fault(2, "size ^9;size 8;?");
        fault(1, "^?size 9;size 8;");
        fault(4, "quota ^a 33;");
        fault(2, "space a;quota a ^33 ?");
        fault(3, "space a;space ^a ?");
        fault(5, "space a;pager ^a q 9;");
        fault(4, "space a;space b;pager b ^q 9;");
        fault(3, "size 8;^size 9;");
        fault(3, "size 8;^size ?");
        fault(1, "size 8;space a;serve a;^size 8;");
        fault(1, "size 8;space a;serve a;^size 9;");
    }

    // Terms 1: "1 a TOKEN that is none (a word of more than 6 letters that isn't of the language, too) or can't stand there (the
    // length, if more must come; size behind a STEP)."
    static void tokensThatAreNoneOrCannotStandThere() {
        fault(1, "^abcdefg a;");
        fault(1, "^budgets 1;");
        fault(1, "^a;");
        fault(1, "^7;");
        fault(1, "space a;\n ^%");
        fault(1, "space ^" + (char) 233 + ";");
        for (String line : LINES) {
            StringBuilder before = new StringBuilder(AHEAD);
            for (String token : line.split(" ")) {
                before.append(token).append(' ');
                fault(1, before.substring(0, before.length() - 1) + "^");
                fault(1, before + "\n ^");
            }
        }
        for (String step : LINES) {
            if ("map grant flush touch serve".contains(step.split(" ")[0])) {
                fault(1, AHEAD + step + ";^size 8;");
                noFault(5, AHEAD + "size 8;" + step + ";");
            }
        }
        cutOff("space a;space b;", 15, 15);
        cutOff("space ab;", 7, 7);
        cutOff("spaces", 5, 5);
        cutOff("space a;", 4, 0);
        cutOff("seed 12;", 6, 6);
        cutOff("seed1", 4, 4);
        cutOff("space a;seed 9", 13, 13);
    }

    /** Of the text only some bytes are told; what stands behind them is no part of the last token. */
    private static void cutOff(String text, int told, int place) {
        FrameHeirs x = new FrameHeirs();
        feedAll(x, text);
        due(NONE, x.text(told));
        due(1, x.fault(0));
        due(place, x.fault(1));
    }

    // Terms 1: "2 too much (at it): a number beyond what is said, a seventh space, a 25th STEP (at the word of the LINE)."
    static void tooMuch() {
        fault(2, "size ^4294967304;");
        fault(2, "size ^0;");
        fault(2, "size ^" + "9".repeat(300) + ";");
        String six = "space a;space b;space c;space d;space e;space f;";
        noFault(6, six);
        fault(2, six + "^space g;");
        fault(2, six + "^space a;");
        fault(2, six + "^space");
        String steps = "space a;" + "serve a;".repeat(24);
        noFault(25, steps);
        noFault(27, steps + "space b;seed 1;");
        for (String line : LINES) {
            if ("map grant flush touch serve".contains(line.split(" ")[0])) {
                fault(2, steps + "space b;^" + line + ";");
                fault(2, steps + "^" + line.split(" ")[0] + " q");
            }
        }
    }

    // Terms 1: "3 told already: a name (at W), a PAGER, a quota of the SPACE (at W), size, budget, decay, seed (at the word)."
    static void toldAlready() {
        fault(3, "space a;space b;space ^a;");
        fault(3, "space abcdef;space ^abcdef;");
        fault(3, "space a;space b;pager b a 0;pager ^b a 0;");
        fault(3, "space a;space b;space c;pager b a 0;pager ^b c 3;");
        fault(3, "space a;quota a 32;quota ^a 32;");
        fault(3, "space a;space b;quota b 32;quota a 1;quota ^b 1;");
        noFault(6, "space a;space b;quota b 32;quota a 32;pager b a 0;serve b;");
        for (String line : new String[] {"size 16;", "budget 2;", "decay 5;", "seed 0;"}) {
            fault(3, line + "^" + line);
            fault(3, line + "space a;^" + line);
        }
        noFault(4, "size 8;budget 8;decay 8;seed 8;");
    }

    // Terms 1: "4 a SPACE that isn't told ahead (at W)."
    static void spacesThatAreNotToldAhead() {
        fault(4, "serve ^a;space a;");
        for (String line : new String[] {"pager ^q a 0", "pager b ^q 0", "quota ^q 5", "map ^q 0 a 0 0 7", "map a 0 ^q 0 0 7",
            "grant ^q 0 a 0 0", "grant a 0 ^q 0 0", "flush ^q 0 0 7 0", "touch ^q 0 1", "serve ^q"}) {
            fault(4, AHEAD + line + ";space q;");
            noFault(5, AHEAD + "space q;" + line.replace("^", "") + ";");
        }
        fault(4, "space ab;serve ^a;");
        fault(4, "space a;serve ^ab;");
    }

    // Terms 1: "5 ROOT's pager, a PAGER that is the SPACE itself (at W, of ROOT at the first)."
    static void pagersThatCannotBe() {
        fault(5, "space a;space b;pager ^a b 0;");
        fault(5, "space a;pager ^a a 0;");
        fault(5, "space a;pager ^a");
        fault(5, "space a;space b;pager b ^b 0;");
        noFault(5, "space a;space b;space c;pager b c 0;pager c b 0;");
    }
}
