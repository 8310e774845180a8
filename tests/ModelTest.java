import java.nio.charset.StandardCharsets;
import java.util.ArrayList;
import java.util.Arrays;
import java.util.Comparator;
import java.util.HashMap;
import java.util.HashSet;
import java.util.IdentityHashMap;
import java.util.LinkedHashSet;
import java.util.List;
import java.util.Map;
import java.util.NoSuchElementException;
import java.util.Random;
import java.util.Set;
import java.util.TreeMap;

/**
 * Long runs of calls by chance, with fixed seeds, on FrameHeirs and on a plain model of the document beside it: every
 * answer must be the same. The model is written from the document's words, with objects, lists and copies, and shares
 * no code and no way of holding things with the class.
 */
public final class ModelTest {
    private static final int RUNS = 1500;
    private static final int CALLS = 500;

    private ModelTest() {
    }

    public static void main(String[] args) {
        int runs = args.length > 0 ? Integer.parseInt(args[0]) : RUNS;
        int first = args.length > 1 ? Integer.parseInt(args[1]) : 0;
        int wrong = 0;
        Map<String, Map<Integer, Integer>> seen = new TreeMap<>();
        for (int run = first; run < first + runs && wrong < 5; run++) {
            wrong += new Run(run, seen).go() ? 0 : 1;
        }
        wrong += unseen(seen);
        if (args.length > 2) {
            seen.forEach((call, answers) -> System.out.println(call + " " + answers));
        }
        System.out.println(wrong == 0 ? "ModelTest: " + runs + " runs are as the model's" : "ModelTest: " + wrong + " wrong");
        if (wrong != 0) {
            System.exit(1);
        }
    }

    /** The runs are worth little, unless they meet each answer below 0 that the document names. */
    private static int unseen(Map<String, Map<Integer, Integer>> seen) {
        String[] due = {
            "map -1 -2 -3 -4 -5 -6", "grant -1 -2 -3 -4 -5", "flush -1 -2 -3 -4 -5 0", "work -1", "touch -1 -2 -3",
            "serve -1 -2 -3 -4 -5 -6", "tidy -1", "run -1", "answer -1 -9 -10", "deed -2 -100 -101", "above -1 -2",
            "heir -1 -2", "holds -1", "aliases -1", "reach -1", "shared -1", "gates -1", "gap -1 -2", "free -1",
            "coldest -1 -2", "age -1 -2", "warmth -1", "ratio -1 -2", "cool -1", "kept -1", "job -1", "waits -1 -2",
            "lost -1 -2", "steps -1 -2 -3 -5", "tried -1", "churn -1", "undo -1", "count -1"};
        int missing = 0;
        for (String row : due) {
            String[] parts = row.split(" ");
            for (int i = 1; i < parts.length; i++) {
                if (!seen.getOrDefault(parts[0], Map.of()).containsKey(Integer.parseInt(parts[i]))) {
                    System.out.println("never answered: " + row.split(" ")[0] + " " + parts[i]);
                    missing++;
                }
            }
        }
        return missing;
    }

    /** One run of calls. */
    private static final class Run {
        final int number;
        final Random chance;
        final FrameHeirs program = new FrameHeirs();
        final Model model = new Model();
        final List<String> log = new ArrayList<>();
        final Map<String, Map<Integer, Integer>> seen;
        boolean fine = true;
        /** Chosen once a run, so that runs differ in what they do most. */
        final int[] weights = new int[11];

        Run(int number, Map<String, Map<Integer, Integer>> seen) {
            this.number = number;
            this.seen = seen;
            chance = new Random(number * 7919L + 13);
            weights[0] = 4;
            for (int i = 1; i < weights.length; i++) {
                weights[i] = new int[] {0, 1, 3, 8}[chance.nextInt(4)];
            }
        }

        boolean go() {
            int calls = 0;
            while (calls < CALLS && fine) {
                if (log.isEmpty() || chance.nextInt(300) == 0) {
                    calls += tell(chance.nextInt(25) == 0);
                } else if (chance.nextInt(100) < 55) {
                    change();
                    calls++;
                } else {
                    ask();
                    calls++;
                }
            }
            if (!fine) {
                System.out.println("run " + number + ":");
                log.subList(Math.max(0, log.size() - 60), log.size()).forEach(row -> System.out.println("  " + row));
            }
            return fine;
        }

        void same(String call, int got, int due) {
            log.add(call + " = " + got + (got == due ? "" : ", due is " + due));
            String name = call.substring(0, call.indexOf('('));
            if (due <= 0) {
                seen.computeIfAbsent(name, key -> new TreeMap<>()).merge(due, 1, Integer::sum);
            } else {
                seen.computeIfAbsent(name, key -> new TreeMap<>()).merge(1, 1, Integer::sum);
            }
            if (got != due) {
                fine = false;
            }
        }

        int tell(boolean spoiled) {
            String text = Texts.any(chance);
            if (spoiled) {
                text = Texts.spoil(text, chance);
            }
            byte[] bytes = text.getBytes(StandardCharsets.ISO_8859_1);
            int calls = 0;
            for (int i = 0; i < bytes.length; i += 20) {
                int[] five = new int[5];
                for (int j = 0; j < 20; j++) {
                    int b = i + j < bytes.length ? bytes[i + j] & 255 : 32;
                    five[j / 4] = five[j / 4] << 8 | b;
                }
                same("feed(" + Arrays.toString(five) + ")", program.feed(five[0], five[1], five[2], five[3], five[4]),
                    model.feed(five));
                calls++;
            }
            int n = chance.nextInt(40) == 0 ? bytes.length + 20 : bytes.length;
            log.add("text is " + text);
            same("text(" + n + ")", program.text(n), model.text(n));
            same("fault(0)", program.fault(0), model.fault(0));
            same("fault(1)", program.fault(1), model.fault(1));
            return calls + 3;
        }

        int space() {
            int spaces = Math.max(1, model.world.text.spaces.size());
            return chance.nextInt(60) == 0 ? chance.nextInt(9) - 1 : chance.nextInt(spaces);
        }

        int place() {
            int size = model.world.text.size;
            return chance.nextInt(60) == 0 ? chance.nextInt(40) - 2 : chance.nextInt(size);
        }

        /** A place that a space has, if it has one, mostly. */
        int placeOf(int space) {
            List<Deed> all = model.world.deedsOf(space);
            if (all.isEmpty() || chance.nextInt(4) == 0) {
                return place();
            }
            Deed deed = all.get(chance.nextInt(all.size()));
            return deed.place + chance.nextInt(deed.pages());
        }

        int other(int space) {
            int spaces = Math.max(1, model.world.text.spaces.size());
            return chance.nextInt(20) == 0 || spaces < 2 ? space() : (Math.max(0, space) + 1 + chance.nextInt(spaces - 1)) % spaces;
        }

        /** A place for a region of a space, a free one mostly. */
        int room(int space, int order) {
            int at = place() & -(1 << order);
            for (int i = 0; i < 8 && chance.nextInt(12) != 0 && !model.world.in(space, at, order).isEmpty(); i++) {
                at = place() & -(1 << order);
            }
            return chance.nextInt(40) == 0 ? place() : at;
        }

        int order() {
            int draw = chance.nextInt(10);
            return draw < 4 ? 0 : draw < 7 ? 1 : draw < 9 ? 2 : 3;
        }

        int region(int place, int order) {
            if (chance.nextInt(50) == 0) {
                return chance.nextInt(3) == 0 ? chance.nextInt() : 4 * place + order;
            }
            return 4 * (place & -(1 << order)) + order;
        }

        int rights() {
            int draw = chance.nextInt(12);
            return draw < 5 ? 7 : draw == 5 && chance.nextInt(4) == 0 ? chance.nextInt(12) - 2 : 1 + chance.nextInt(7);
        }

        int right() {
            return chance.nextInt(30) == 0 ? chance.nextInt(10) - 2 : 1 << chance.nextInt(3);
        }

        void change() {
            int sum = Arrays.stream(weights).sum();
            int draw = chance.nextInt(sum);
            int kind = 0;
            while (draw >= weights[kind]) {
                draw -= weights[kind];
                kind++;
            }
            int s = space();
            int t = other(s);
            int order = order();
            switch (kind) {
                case 0:
                case 1: {
                    int r = region(placeOf(s), order);
                    int at = room(t, r & 3);
                    int rights = rights();
                    same("map(" + s + ", " + r + ", " + t + ", " + at + ", " + rights + ")",
                        program.map(s, r, t, at, rights), model.map(s, r, t, at, rights));
                    break;
                }
                case 2: {
                    int r = region(placeOf(s), order);
                    int at = room(t, r & 3);
                    same("grant(" + s + ", " + r + ", " + t + ", " + at + ")", program.grant(s, r, t, at),
                        model.grant(s, r, t, at));
                    break;
                }
                case 3: {
                    int r = region(placeOf(s), order);
                    int rights = rights();
                    boolean itself = chance.nextInt(3) == 0;
                    same("flush(" + s + ", " + r + ", " + rights + ", " + itself + ")",
                        program.flush(s, r, rights, itself), model.flush(s, r, rights, itself));
                    break;
                }
                case 4: {
                    int n = chance.nextInt(40) == 0 ? chance.nextInt(300) - 100 : chance.nextInt(6);
                    same("work(" + n + ")", program.work(n), model.work(n));
                    break;
                }
                case 5: {
                    int p = chance.nextInt(2) == 0 ? place() : placeOf(s);
                    int right = right();
                    same("touch(" + s + ", " + p + ", " + right + ")", program.touch(s, p, right),
                        model.touch(s, p, right));
                    break;
                }
                case 6:
                    same("serve(" + s + ")", program.serve(s), model.serve(s));
                    break;
                case 7:
                    same("settle()", program.settle(), model.settle());
                    break;
                case 8:
                    same("tick()", program.tick(), model.tick());
                    break;
                case 9:
                    same("tidy(" + s + ")", program.tidy(s), model.tidy(s));
                    break;
                default:
                    if (chance.nextInt(3) == 0) {
                        int n = chance.nextInt(20) == 0 ? chance.nextInt(60) - 20 : chance.nextInt(5);
                        same("run(" + n + ")", program.run(n), model.run(n));
                    } else if (chance.nextInt(4) == 0) {
                        same("undo()", program.undo(), model.undo());
                    }
                    break;
            }
        }

        void ask() {
            int s = space();
            int t = other(s);
            int p = chance.nextInt(3) == 0 ? place() : placeOf(s);
            int r = region(p, order());
            int frame = place();
            int rights = rights();
            int what = chance.nextInt(30) == 0 ? chance.nextInt(20) - 3 : chance.nextInt(4);
            switch (chance.nextInt(28)) {
                case 0: {
                    int step = chance.nextInt(27) - 1;
                    same("answer(" + step + ")", program.answer(step), model.answer(step));
                    break;
                }
                case 1:
                case 2:
                case 3: {
                    int w = chance.nextInt(40) == 0 ? chance.nextInt(12) - 2 : chance.nextInt(8);
                    same("deed(" + s + ", " + p + ", " + w + ")", deedOfProgram(s, p, w), model.deed(s, p, w));
                    break;
                }
                case 4: {
                    int k = chance.nextInt(6);
                    same("above(" + s + ", " + p + ", " + k + ")", program.above(s, p, k), model.above(s, p, k));
                    break;
                }
                case 5: {
                    int k = chance.nextInt(6) - 1;
                    same("heir(" + s + ", " + p + ", " + k + ")", program.heir(s, p, k), model.heir(s, p, k));
                    break;
                }
                case 6:
                    same("holds(" + frame + ", " + rights + ")", program.holds(frame, rights),
                        model.holds(frame, rights));
                    break;
                case 7:
                    same("aliases(" + s + ", " + frame + ")", program.aliases(s, frame), model.aliases(s, frame));
                    break;
                case 8:
                    same("reach(" + s + ", " + t + ")", program.reach(s, t), model.reach(s, t));
                    break;
                case 9:
                    same("shared(" + s + ", " + t + ")", program.shared(s, t), model.shared(s, t));
                    break;
                case 10:
                    same("gates(" + s + ", " + t + ")", program.gates(s, t), model.gates(s, t));
                    break;
                case 11:
                    same("gap(" + s + ", " + what + ")", program.gap(s, what), model.gap(s, what));
                    break;
                case 12:
                    same("free(" + s + ")", program.free(s), model.free(s));
                    break;
                case 13:
                    same("coldest(" + s + ")", program.coldest(s), model.coldest(s));
                    break;
                case 14:
                    same("age(" + s + ", " + p + ")", program.age(s, p), model.age(s, p));
                    break;
                case 15:
                    same("warmth(" + s + ")", program.warmth(s), model.warmth(s));
                    break;
                case 16:
                    same("ratio(" + s + ", " + t + ")", program.ratio(s, t), model.ratio(s, t));
                    break;
                case 17:
                    same("cool(" + s + ")", program.cool(s), model.cool(s));
                    break;
                case 18:
                    same("kept(" + s + ")", program.kept(s), model.kept(s));
                    break;
                case 19: {
                    int k = chance.nextInt(7) - (chance.nextInt(9) == 0 ? 1 : 0);
                    same("job(" + k + ", " + what + ")", program.job(k, what), model.job(k, what));
                    break;
                }
                case 20:
                    same("waits(" + s + ", " + what + ")", program.waits(s, what), model.waits(s, what));
                    break;
                case 21:
                    same("lost(" + s + ", " + r + ", " + what % 3 + ")", program.lost(s, r, what % 3),
                        model.lost(s, r, what % 3));
                    break;
                case 22:
                    same("steps(" + s + ", " + r + ")", program.steps(s, r), model.steps(s, r));
                    break;
                case 23: {
                    int w = chance.nextInt(30) == 0 ? chance.nextInt(12) - 3 : chance.nextInt(5);
                    same("tried(" + w + ")", program.tried(w), model.tried(w));
                    break;
                }
                case 24: {
                    int seed = chance.nextInt(3) == 0 ? -1 : chance.nextInt(20) == 0 ? chance.nextInt()
                        : chance.nextInt(Integer.MAX_VALUE);
                    int n = chance.nextInt(20) == 0 ? chance.nextInt(30) - 4 : 1 + chance.nextInt(20);
                    same("churn(" + seed + ", " + n + ")", program.churn(seed, n), model.churn(seed, n));
                    break;
                }
                case 25: {
                    int letters = chance.nextInt(3) == 0 ? chance.nextInt()
                        : Texts.packed(Texts.NAMES[chance.nextInt(Texts.NAMES.length)]);
                    same("named(" + letters + ")", program.named(letters), model.named(letters));
                    break;
                }
                default: {
                    int w = chance.nextInt(40) == 0 ? chance.nextInt(20) - 3 : chance.nextInt(13);
                    same("count(" + w + ")", program.count(w), model.count(w));
                    break;
                }
            }
        }

        int deedOfProgram(int s, int p, int what) {
            try {
                return program.deed(s, p, what);
            } catch (IndexOutOfBoundsException e) {
                return -100;
            } catch (NoSuchElementException e) {
                return -101;
            }
        }
    }

    /** Texts by chance. */
    private static final class Texts {
        static final String[] NAMES = {"r", "a", "bb", "cell", "sigma", "zzzzzz", "maps", "b"};

        static int packed(String name) {
            int packed = 0;
            for (int i = 0; i < 6; i++) {
                packed = packed * 32 + (i < name.length() ? name.charAt(i) - 96 : 0);
            }
            return packed;
        }

        static String any(Random chance) {
            StringBuilder text = new StringBuilder();
            int size = chance.nextInt(4) == 0 ? 32 : chance.nextInt(2) == 0 ? 16 : 8;
            if (size != 16 || chance.nextBoolean()) {
                text.append("size ").append(size).append(';');
            }
            if (chance.nextBoolean()) {
                text.append("budget ").append(chance.nextInt(10)).append(';');
            }
            if (chance.nextBoolean()) {
                text.append("decay ").append(1 + chance.nextInt(9)).append(";\n");
            }
            if (chance.nextBoolean()) {
                text.append("seed ").append(chance.nextInt(100000)).append(" ; ");
            }
            int spaces = chance.nextInt(30) == 0 ? chance.nextInt(2) : 2 + chance.nextInt(5);
            for (int i = 0; i < spaces; i++) {
                text.append("space ").append(NAMES[i]).append(';');
            }
            for (int i = 1; i < spaces; i++) {
                int pager = chance.nextInt(spaces);
                if (chance.nextInt(4) == 0) {
                    pager = 0;
                }
                if (pager != i && chance.nextInt(6) != 0) {
                    text.append("pager ").append(NAMES[i]).append(' ').append(NAMES[pager]).append(' ')
                        .append(chance.nextInt(4)).append(';');
                }
                if (chance.nextInt(2) == 0) {
                    text.append("quota ").append(NAMES[i]).append(' ').append(1 + chance.nextInt(size)).append(';');
                }
            }
            int steps = spaces == 0 ? 0 : chance.nextInt(20);
            for (int i = 0; i < steps && text.length() < 650; i++) {
                step(text, chance, spaces, size);
            }
            return text.toString();
        }

        private static void step(StringBuilder text, Random chance, int spaces, int size) {
            String one = NAMES[chance.nextInt(3) == 0 ? 0 : chance.nextInt(spaces)];
            String other = NAMES[chance.nextInt(spaces)];
            int order = chance.nextInt(4);
            int place = chance.nextInt(size) & -(1 << order);
            int at = chance.nextInt(size) & -(1 << order);
            int rights = chance.nextBoolean() ? 7 : 1 + chance.nextInt(7);
            switch (chance.nextInt(5)) {
                case 0:
                    text.append("map ").append(one).append(' ').append(place).append(' ').append(other).append(' ')
                        .append(at).append(' ').append(order).append(' ').append(rights).append(';');
                    break;
                case 1:
                    text.append("grant ").append(one).append(place).append(other).append(at).append(' ').append(order)
                        .append(';');
                    break;
                case 2:
                    text.append("flush ").append(one).append(' ').append(place).append(' ').append(order).append(' ')
                        .append(rights).append(' ').append(chance.nextInt(2)).append(';');
                    break;
                case 3:
                    text.append("touch ").append(one).append(' ').append(chance.nextInt(size)).append(' ')
                        .append(1 + chance.nextInt(4)).append(';');
                    break;
                default:
                    text.append("serve ").append(one).append(';');
                    break;
            }
        }

        static String spoil(String text, Random chance) {
            StringBuilder spoiled = new StringBuilder(text);
            int at = text.isEmpty() ? 0 : chance.nextInt(text.length());
            String[] bits = {";", " ", "x", "9", "space q;", "A", "\t", "size 8;", "serve r;", "pager r a 0;", "abcdefg",
                "quota a 3;", "decay 3;", "\u00e9", "0000", "map"};
            switch (chance.nextInt(4)) {
                case 0:
                    if (!text.isEmpty()) {
                        spoiled.deleteCharAt(at);
                    }
                    break;
                case 1:
                    spoiled.setLength(at);
                    break;
                default:
                    spoiled.insert(at, bits[chance.nextInt(bits.length)]);
                    break;
            }
            if (spoiled.length() > 700) {
                spoiled.setLength(700);
            }
            return spoiled.toString();
        }
    }

    /** What a text tells. */
    private static final class Told {
        final List<String> spaces = new ArrayList<>();
        final Map<Integer, Integer> pagers = new HashMap<>();
        final Map<Integer, Integer> ways = new HashMap<>();
        final Map<Integer, Integer> quotas = new HashMap<>();
        final List<String[]> steps = new ArrayList<>();
        int size = 16;
        int budget = 2;
        int decay = 5;
        int seed = 0;
        int lines = 0;
        int fault = 0;
        int faultPlace = -1;

        static final Map<String, String> FORMS = new HashMap<>();

        static {
            String[] forms = {"space W", "pager W W N", "quota W N", "size N", "budget N", "decay N", "seed N",
                "map W N W N N N", "grant W N W N N", "flush W N N N N", "touch W N N", "serve W"};
            for (String form : forms) {
                FORMS.put(form.split(" ")[0], form);
            }
        }

        /** One token: its text and its place. */
        record Token(String text, int place) {
            boolean isName() {
                return text.matches("[a-z]{1,6}") && !FORMS.containsKey(text);
            }

            boolean isNumber() {
                return text.matches("[0-9]+");
            }

            boolean isIn(int low, int high) {
                java.math.BigInteger value = new java.math.BigInteger(text);
                return value.compareTo(java.math.BigInteger.valueOf(low)) >= 0
                    && value.compareTo(java.math.BigInteger.valueOf(high)) <= 0;
            }
        }

        private void wrong(int kind, int place) {
            if (fault == 0 || place < faultPlace || place == faultPlace && kind < fault) {
                fault = kind;
                faultPlace = place;
            }
        }

        Told(String text) {
            List<Token> tokens = new ArrayList<>();
            java.util.regex.Matcher matcher = java.util.regex.Pattern.compile("[a-z]+|[0-9]+|[^\\n ]", java.util.regex.Pattern.DOTALL)
                .matcher(text);
            while (matcher.find()) {
                tokens.add(new Token(matcher.group(), matcher.start()));
            }
            Token end = new Token("", text.length());
            Set<String> once = new HashSet<>();
            int i = 0;
            while (i < tokens.size() && fault == 0) {
                Token word = tokens.get(i);
                if (!FORMS.containsKey(word.text)) {
                    wrong(1, word.place);
                    return;
                }
                String[] form = FORMS.get(word.text).split(" ");
                String[] row = new String[form.length];
                row[0] = word.text;
                for (int j = 1; j <= form.length; j++) {
                    Token token = i + j < tokens.size() ? tokens.get(i + j) : end;
                    boolean fits = j == form.length ? token.text.equals(";")
                        : form[j].equals("W") ? token.isName() : token.isNumber();
                    if (!fits) {
                        wrong(1, token.place);
                        break;
                    }
                    if (j < form.length) {
                        row[j] = token.text;
                        argument(word, j, token, row);
                    }
                }
                whole(word, once);
                if (fault != 0) {
                    return;
                }
                take(row);
                lines++;
                i += form.length + 1;
            }
        }

        private boolean isStep(String word) {
            return Set.of("map", "grant", "flush", "touch", "serve").contains(word);
        }

        private void whole(Token word, Set<String> once) {
            if (word.text.equals("size") && !steps.isEmpty()) {
                wrong(1, word.place);
            }
            if (Set.of("size", "budget", "decay", "seed").contains(word.text) && !once.add(word.text)) {
                wrong(3, word.place);
            }
            if (word.text.equals("space") && spaces.size() == 6 || isStep(word.text) && steps.size() == 24) {
                wrong(2, word.place);
            }
        }

        private void argument(Token word, int j, Token token, String[] row) {
            String form = FORMS.get(word.text).split(" ")[j];
            if (form.equals("W")) {
                int number = spaces.indexOf(token.text);
                if (word.text.equals("space")) {
                    if (number >= 0) {
                        wrong(3, token.place);
                    }
                } else if (number < 0) {
                    wrong(4, token.place);
                } else if (word.text.equals("pager") && j == 1) {
                    if (pagers.containsKey(number)) {
                        wrong(3, token.place);
                    }
                    if (number == 0) {
                        wrong(5, token.place);
                    }
                } else if (word.text.equals("pager") && token.text.equals(row[1])) {
                    wrong(5, token.place);
                } else if (word.text.equals("quota") && quotas.containsKey(number)) {
                    wrong(3, token.place);
                }
                return;
            }
            boolean fits;
            switch (word.text + j) {
                case "pager3": fits = token.isIn(0, 3); break;
                case "quota2": fits = token.isIn(1, 32); break;
                case "size1": fits = token.isIn(8, 8) || token.isIn(16, 16) || token.isIn(32, 32); break;
                case "budget1": fits = token.isIn(0, 9); break;
                case "decay1": fits = token.isIn(1, 9); break;
                case "seed1": fits = token.isIn(0, 99999); break;
                case "map5": case "grant5": case "flush3": fits = token.isIn(0, 3); break;
                case "map6": case "flush4": fits = token.isIn(1, 7); break;
                case "flush5": fits = token.isIn(0, 1); break;
                case "touch3": fits = token.isIn(1, 4); break;
                default: fits = token.isIn(0, 31); break;
            }
            if (!fits) {
                wrong(2, token.place);
            }
        }

        private void take(String[] row) {
            switch (row[0]) {
                case "space": spaces.add(row[1]); break;
                case "pager":
                    pagers.put(spaces.indexOf(row[1]), spaces.indexOf(row[2]));
                    ways.put(spaces.indexOf(row[1]), Integer.parseInt(row[3]));
                    break;
                case "quota": quotas.put(spaces.indexOf(row[1]), Integer.parseInt(row[2])); break;
                case "size": size = Integer.parseInt(row[1]); break;
                case "budget": budget = Integer.parseInt(row[1]); break;
                case "decay": decay = Integer.parseInt(row[1]); break;
                case "seed": seed = Integer.parseInt(row[1]); break;
                default: steps.add(row); break;
            }
        }
    }

    /** A deed. */
    private static final class Deed {
        int space;
        int place;
        int frame;
        int order;
        int rights;
        float age;
        Deed giver;
        List<Deed> heirs = new ArrayList<>();

        Deed(int space, int place, int frame, int order, int rights, float age, Deed giver) {
            this.space = space;
            this.place = place;
            this.frame = frame;
            this.order = order;
            this.rights = rights;
            this.age = age;
            this.giver = giver;
        }

        int pages() {
            return 1 << order;
        }

        boolean covers(int at) {
            return place <= at && at < place + pages();
        }

        int frameAt(int at) {
            return frame + at - place;
        }

        List<Deed> above() {
            List<Deed> all = new ArrayList<>();
            for (Deed d = giver; d != null; d = d.giver) {
                all.add(d);
            }
            return all;
        }

        /** All beneath, each behind its heirs. */
        List<Deed> beneath() {
            List<Deed> all = new ArrayList<>();
            for (Deed h : heirs) {
                all.addAll(h.beneath());
                all.add(h);
            }
            return all;
        }
    }

    /** A job. */
    private static final class Job {
        int space;
        int place;
        int rights;
        List<Deed> tops = new ArrayList<>();
        List<Deed> left = new ArrayList<>();
    }

    /** All that an undo brings back. */
    private static final class World {
        Told text = new Told("");
        List<Deed> deeds = new ArrayList<>();
        List<Job> jobs = new ArrayList<>();
        /** Space, place, right of all who wait, as they came. */
        List<int[]> waiting = new ArrayList<>();
        Set<Integer> wide = new HashSet<>();
        List<Integer> answers = new ArrayList<>();
        int splits;
        int faults;
        int refused;
        int worked;

        World copy() {
            World w = new World();
            w.text = text;
            Map<Deed, Deed> twins = new IdentityHashMap<>();
            for (Deed d : deeds) {
                Deed twin = new Deed(d.space, d.place, d.frame, d.order, d.rights, d.age, null);
                twins.put(d, twin);
                w.deeds.add(twin);
            }
            for (Deed d : deeds) {
                Deed twin = twins.get(d);
                twin.giver = d.giver == null ? null : twins.get(d.giver);
                for (Deed h : d.heirs) {
                    twin.heirs.add(twins.get(h));
                }
            }
            for (Job j : jobs) {
                Job twin = new Job();
                twin.space = j.space;
                twin.place = j.place;
                twin.rights = j.rights;
                j.tops.forEach(d -> twin.tops.add(twins.get(d)));
                j.left.forEach(d -> twin.left.add(twins.get(d)));
                w.jobs.add(twin);
            }
            waiting.forEach(row -> w.waiting.add(row.clone()));
            w.wide.addAll(wide);
            w.answers.addAll(answers);
            w.splits = splits;
            w.faults = faults;
            w.refused = refused;
            w.worked = worked;
            return w;
        }

        boolean isSpace(int s) {
            return s >= 0 && s < text.spaces.size();
        }

        boolean isPlace(int p) {
            return p >= 0 && p < text.size;
        }

        boolean isRegion(int place, int order) {
            return place >= 0 && place % (1 << order) == 0 && place + (1 << order) <= text.size;
        }

        List<Deed> deedsOf(int space) {
            List<Deed> all = new ArrayList<>();
            for (Deed d : deeds) {
                if (d.space == space) {
                    all.add(d);
                }
            }
            all.sort(Comparator.comparingInt(d -> d.place));
            return all;
        }

        Deed at(int space, int place) {
            for (Deed d : deeds) {
                if (d.space == space && d.covers(place)) {
                    return d;
                }
            }
            return null;
        }

        List<Deed> in(int space, int place, int order) {
            List<Deed> all = deedsOf(space);
            all.removeIf(d -> d.place + d.pages() <= place || d.place >= place + (1 << order));
            return all;
        }

        boolean busy(Deed d) {
            for (Job j : jobs) {
                for (Deed top : j.tops) {
                    if (top == d || d.above().contains(top)) {
                        return true;
                    }
                }
            }
            return false;
        }

        boolean tied(Deed d) {
            return busy(d) || d.beneath().stream().anyMatch(this::busy);
        }

        int pages(int space) {
            return deedsOf(space).stream().mapToInt(Deed::pages).sum();
        }

        int pages() {
            return deeds.stream().mapToInt(Deed::pages).sum();
        }

        int quota(int space) {
            return space == 0 ? 1000 : text.quotas.getOrDefault(space, 32);
        }

        void come(Deed d) {
            deeds.add(d);
            if (d.order > 0) {
                wide.add(100 * d.space + d.place / 8);
            }
        }

        void goes(Deed d) {
            List<Deed> gone = d.beneath();
            gone.add(d);
            d.giver.heirs.remove(d);
            for (Deed g : gone) {
                deeds.remove(g);
                for (Job j : jobs) {
                    j.tops.remove(g);
                    j.left.remove(g);
                }
            }
        }

        void split(Deed d) {
            for (Deed h : new ArrayList<>(d.heirs)) {
                if (h.order == d.order) {
                    split(h);
                }
            }
            int half = d.pages() / 2;
            Deed low = new Deed(d.space, d.place, d.frame, d.order - 1, d.rights, d.age, d.giver);
            Deed high = new Deed(d.space, d.place + half, d.frame + half, d.order - 1, d.rights, d.age, d.giver);
            for (Deed h : d.heirs) {
                Deed to = h.frame < high.frame ? low : high;
                to.heirs.add(h);
                h.giver = to;
            }
            if (d.giver != null) {
                int index = d.giver.heirs.indexOf(d);
                d.giver.heirs.set(index, low);
                d.giver.heirs.add(index + 1, high);
            }
            deeds.remove(d);
            come(low);
            come(high);
            splits++;
        }

        void cut(int space, int place, int order) {
            Deed d = at(space, place);
            while (d != null && d.order > order) {
                split(d);
                d = at(space, place);
            }
        }

        int map(int from, int region, int to, int at, int rights) {
            int order = region & 3;
            int place = region >> 2;
            if (!isSpace(from) || !isSpace(to) || from == to || !isRegion(place, order) || !isRegion(at, order)
                || rights < 1 || rights > 7) {
                return -1;
            }
            List<Deed> there = in(from, place, order);
            if (there.isEmpty()) {
                return -2;
            }
            if (there.stream().anyMatch(this::busy)) {
                return -3;
            }
            if (!in(to, at, order).isEmpty()) {
                return -4;
            }
            List<Deed> more = new ArrayList<>();
            for (Deed d : there) {
                if ((d.rights & rights) != 0) {
                    int first = Math.max(d.place, place);
                    more.add(new Deed(to, at + first - place, d.frameAt(first), Math.min(d.order, order),
                        d.rights & rights, 0f, d));
                }
            }
            if (more.isEmpty()) {
                return -5;
            }
            if (pages(to) + more.stream().mapToInt(Deed::pages).sum() > quota(to)) {
                return -6;
            }
            for (Deed d : more) {
                d.giver.heirs.add(d);
                come(d);
            }
            return more.size();
        }

        int grant(int from, int region, int to, int at) {
            int order = region & 3;
            int place = region >> 2;
            if (!isSpace(from) || !isSpace(to) || from == to || !isRegion(place, order) || !isRegion(at, order)) {
                return -1;
            }
            List<Deed> there = in(from, place, order);
            if (there.isEmpty()) {
                return -2;
            }
            if (there.stream().anyMatch(this::tied)) {
                return -3;
            }
            if (!in(to, at, order).isEmpty()) {
                return -4;
            }
            int pages = there.stream().mapToInt(d -> Math.min(d.pages(), 1 << order)).sum();
            if (pages(to) + pages > quota(to)) {
                return -5;
            }
            cut(from, place, order);
            there = in(from, place, order);
            for (Deed d : there) {
                deeds.remove(d);
                d.space = to;
                d.place = at + d.place - place;
                come(d);
            }
            return there.size();
        }

        int flush(int space, int region, int rights, boolean itself) {
            int order = region & 3;
            int place = region >> 2;
            if (!isSpace(space) || !isRegion(place, order) || rights < 1 || rights > 7) {
                return -1;
            }
            List<Deed> there = in(space, place, order);
            if (there.isEmpty()) {
                return -2;
            }
            if (there.stream().anyMatch(this::tied)) {
                return -3;
            }
            if (itself && there.stream().anyMatch(d -> d.giver == null)) {
                return -4;
            }
            if (jobs.size() == 6) {
                return -5;
            }
            cut(space, place, order);
            Set<Deed> all = new LinkedHashSet<>();
            there = in(space, place, order);
            for (Deed d : there) {
                all.addAll(d.beneath());
                if (itself) {
                    all.add(d);
                }
            }
            if (!all.isEmpty()) {
                Job job = new Job();
                job.space = space;
                job.place = place;
                job.rights = rights;
                job.tops.addAll(there);
                job.left.addAll(all);
                jobs.add(job);
            }
            return all.size();
        }

        int work(int n) {
            int steps = 0;
            for (; steps < n && !jobs.isEmpty(); steps++) {
                Job job = jobs.get(0);
                Deed d = job.left.remove(0);
                d.rights &= 7 - job.rights;
                if (d.rights == 0) {
                    goes(d);
                }
                if (job.left.isEmpty()) {
                    jobs.remove(0);
                }
                worked++;
            }
            return steps;
        }

        int[] wait(int space) {
            for (int[] row : waiting) {
                if (row[0] == space) {
                    return row;
                }
            }
            return null;
        }

        List<int[]> waitingFor(int pager) {
            List<int[]> rows = new ArrayList<>(waiting);
            rows.removeIf(row -> text.pagers.get(row[0]) != pager);
            return rows;
        }

        int touch(int space, int place, int right) {
            if (!isSpace(space) || !isPlace(place) || !List.of(1, 2, 4).contains(right) || wait(space) != null) {
                return -1;
            }
            if (has(space, place, right)) {
                at(space, place).age++;
                return at(space, place).frameAt(place);
            }
            if (!text.pagers.containsKey(space)) {
                return -3;
            }
            waiting.add(new int[] {space, place, right});
            faults++;
            return -2;
        }

        boolean has(int space, int place, int right) {
            Deed d = at(space, place);
            return d != null && (d.rights & right) != 0;
        }

        boolean hasFrame(int space, int frame) {
            return deedsOf(space).stream().anyMatch(d -> frame >= d.frame && frame < d.frame + d.pages());
        }

        int refuse(int[] row) {
            waiting.remove(row);
            refused++;
            return -5;
        }

        int serve(int pager) {
            if (!isSpace(pager)) {
                return -1;
            }
            if (waitingFor(pager).isEmpty()) {
                return -2;
            }
            int[] row = waitingFor(pager).get(0);
            int s = row[0];
            int p = row[1];
            int r = row[2];
            int q = p;
            switch (text.ways.get(s)) {
                case 1: q = (p + text.size / 2) % text.size; break;
                case 2: q = text.size - 1 - p; break;
                case 3:
                    for (int i = text.size - 1; i >= 0; i--) {
                        if (has(pager, i, r) && !hasFrame(s, at(pager, i).frameAt(i))) {
                            q = i;
                        }
                    }
                    break;
                default: break;
            }
            if (!has(pager, q, r)) {
                if (wait(pager) != null) {
                    return -4;
                }
                if (!text.pagers.containsKey(pager)) {
                    return refuse(row);
                }
                waiting.add(new int[] {pager, q, r});
                faults++;
                return -6;
            }
            Deed own = at(s, p);
            if (busy(at(pager, q)) || own != null && tied(own)) {
                return -3;
            }
            if (own != null) {
                if (own.giver == null) {
                    return refuse(row);
                }
                cut(s, p, 0);
                goes(at(s, p));
            }
            while (pages(s) >= quota(s)) {
                Deed coldest = null;
                for (Deed d : deedsOf(s)) {
                    if (d.giver != null && !tied(d) && (coldest == null || d.age < coldest.age)) {
                        coldest = d;
                    }
                }
                if (coldest == null) {
                    return refuse(row);
                }
                goes(coldest);
            }
            if (!has(pager, q, r)) {
                return refuse(row);
            }
            Deed giver = at(pager, q);
            Deed d = new Deed(s, p, giver.frameAt(q), 0, giver.rights & (r | 1), 1f, giver);
            giver.heirs.add(d);
            come(d);
            waiting.remove(row);
            return d.frame;
        }

        int settle() {
            int served = 0;
            for (int i = 0; i < 12; i++) {
                for (int s = 0; s < text.spaces.size(); s++) {
                    if (!waitingFor(s).isEmpty() && serve(s) >= 0) {
                        served++;
                    }
                }
            }
            return served;
        }

        int tick() {
            for (Deed d : deeds) {
                d.age *= text.decay / 10f;
            }
            return deeds.size();
        }

        int tidy(int space) {
            if (!isSpace(space)) {
                return -1;
            }
            int before = deeds.size();
            boolean again = true;
            while (again) {
                again = false;
                search:
                for (int order = 0; order < 3; order++) {
                    for (Deed low : deedsOf(space)) {
                        Deed high = at(space, low.place + low.pages());
                        if (low.order == order && high != null && high.order == order
                            && low.place % (2 * low.pages()) == 0 && low.frame % (2 * low.pages()) == 0
                            && high.frame == low.frame + low.pages() && high.rights == low.rights
                            && high.giver == low.giver && !busy(low) && !busy(high)) {
                            join(low, high);
                            again = true;
                            break search;
                        }
                    }
                }
            }
            wide.removeIf(line -> line / 100 == space);
            for (Deed d : deedsOf(space)) {
                if (d.order > 0) {
                    wide.add(100 * space + d.place / 8);
                }
            }
            return before - deeds.size();
        }

        void join(Deed low, Deed high) {
            Deed one = new Deed(low.space, low.place, low.frame, low.order + 1, low.rights, (low.age + high.age) / 2,
                low.giver);
            one.heirs.addAll(low.heirs);
            one.heirs.addAll(high.heirs);
            one.heirs.forEach(h -> h.giver = one);
            if (low.giver != null) {
                low.giver.heirs.set(low.giver.heirs.indexOf(low), one);
                low.giver.heirs.remove(high);
            }
            deeds.remove(low);
            deeds.remove(high);
            deeds.add(one);
        }

        float warmth(int space) {
            float sum = 0;
            for (Deed d : deedsOf(space)) {
                sum += d.age * d.pages();
            }
            return sum;
        }

        int step() {
            String[] row = text.steps.get(answers.size());
            int one = text.spaces.indexOf(row[1]);
            int[] n = new int[row.length];
            for (int i = 1; i < row.length; i++) {
                n[i] = row[i].matches("[0-9]+") ? Integer.parseInt(row[i]) : text.spaces.indexOf(row[i]);
            }
            switch (row[0]) {
                case "map": return map(one, 4 * n[2] + n[5], n[3], n[4], n[6]);
                case "grant": return grant(one, 4 * n[2] + n[5], n[3], n[4]);
                case "flush": return flush(one, 4 * n[2] + n[3], n[4], n[5] == 1);
                case "touch": return touch(one, n[2], n[3]);
                default: return serve(one);
            }
        }
    }

    /** The whole of the document, plainly. */
    private static final class Model {
        World world = new World();
        List<World> past = new ArrayList<>();
        StringBuilder tape = new StringBuilder();
        Told latest = new Told("");

        int feed(int[] five) {
            if (tape.length() + 20 > 700) {
                return -1;
            }
            for (int number : five) {
                for (int shift = 24; shift >= 0; shift -= 8) {
                    tape.append((char) (number >>> shift & 255));
                }
            }
            return tape.length();
        }

        int text(int n) {
            if (n < 0 || n > tape.length()) {
                return -2;
            }
            latest = new Told(tape.substring(0, n));
            tape.setLength(0);
            if (latest.fault != 0) {
                return -1;
            }
            world = new World();
            world.text = latest;
            past.clear();
            for (int p = 0; p < latest.size && !latest.spaces.isEmpty(); p += 8) {
                world.come(new Deed(0, p, p, 3, 7, 0f, null));
            }
            return latest.lines;
        }

        int fault(int what) {
            return what == 0 ? latest.fault : what == 1 ? latest.faultPlace : -1;
        }

        int named(int letters) {
            for (int s = 0; s < world.text.spaces.size(); s++) {
                if (Texts.packed(world.text.spaces.get(s)) == letters) {
                    return s;
                }
            }
            return -1;
        }

        private int kept(World before, int answer) {
            if (answer != -1) {
                past.add(before);
                if (past.size() > 20) {
                    past.remove(0);
                }
            }
            return answer;
        }

        int map(int from, int region, int to, int at, int rights) {
            World before = world.copy();
            return kept(before, world.map(from, region, to, at, rights));
        }

        int grant(int from, int region, int to, int at) {
            World before = world.copy();
            return kept(before, world.grant(from, region, to, at));
        }

        int flush(int space, int region, int rights, boolean itself) {
            World before = world.copy();
            return kept(before, world.flush(space, region, rights, itself));
        }

        int work(int n) {
            World before = world.copy();
            return n < 0 || n > 99 ? -1 : kept(before, world.work(n));
        }

        int touch(int space, int place, int right) {
            World before = world.copy();
            return kept(before, world.touch(space, place, right));
        }

        int serve(int space) {
            World before = world.copy();
            return kept(before, world.serve(space));
        }

        int settle() {
            World before = world.copy();
            return kept(before, world.settle());
        }

        int tick() {
            World before = world.copy();
            return kept(before, world.tick());
        }

        int tidy(int space) {
            World before = world.copy();
            return kept(before, world.tidy(space));
        }

        int run(int n) {
            if (n < 0 || n > 24) {
                return -1;
            }
            World before = world.copy();
            int ran = 0;
            while (ran < n && world.answers.size() < world.text.steps.size()) {
                world.answers.add(world.step());
                world.work(world.text.budget);
                ran++;
            }
            return kept(before, ran);
        }

        int answer(int step) {
            if (step < 0 || step >= world.text.steps.size()) {
                return -10;
            }
            return step < world.answers.size() ? world.answers.get(step) : -9;
        }

        private boolean is(int s, int p) {
            return world.isSpace(s) && world.isPlace(p);
        }

        int deed(int s, int p, int what) {
            if (!is(s, p)) {
                return -100;
            }
            if (what < 0 || what > 7) {
                return -101;
            }
            Deed d = world.at(s, p);
            if (d == null) {
                return -2;
            }
            int[] all = {d.frameAt(p), d.rights, d.order, d.place, d.above().size(), d.heirs.size(),
                d.beneath().size(), world.busy(d) ? 1 : 0};
            return all[what];
        }

        int above(int s, int p, int k) {
            if (!is(s, p) || k < 1) {
                return -1;
            }
            Deed d = world.at(s, p);
            if (d == null || d.above().size() < k) {
                return -2;
            }
            Deed up = d.above().get(k - 1);
            for (int at = 0; at < 32; at++) {
                if (up.covers(at) && up.frameAt(at) == d.frameAt(p)) {
                    return 32 * up.space + at;
                }
            }
            return -99;
        }

        int heir(int s, int p, int k) {
            if (!is(s, p) || k < 0) {
                return -1;
            }
            Deed d = world.at(s, p);
            return d == null || d.heirs.size() <= k ? -2 : 32 * d.heirs.get(k).space + d.heirs.get(k).place;
        }

        int holds(int frame, int rights) {
            if (!world.isPlace(frame) || rights < 1 || rights > 7) {
                return -1;
            }
            int bits = 0;
            for (Deed d : world.deeds) {
                if (d.frame <= frame && frame < d.frame + d.pages() && (d.rights | rights) == d.rights) {
                    bits |= 1 << d.space;
                }
            }
            return bits;
        }

        int aliases(int s, int frame) {
            if (!world.isSpace(s) || !world.isPlace(frame)) {
                return -1;
            }
            int found = 0;
            for (int p = 0; p < 32; p++) {
                Deed d = world.at(s, p);
                found += d != null && d.frameAt(p) == frame ? 1 : 0;
            }
            return found;
        }

        int reach(int one, int other) {
            if (!world.isSpace(one) || !world.isSpace(other)) {
                return -1;
            }
            Set<Deed> all = new HashSet<>();
            for (Deed d : world.deedsOf(one)) {
                all.addAll(d.beneath());
            }
            return all.stream().filter(d -> d.space == other).mapToInt(Deed::pages).sum();
        }

        int shared(int one, int other) {
            if (!world.isSpace(one) || !world.isSpace(other)) {
                return -1;
            }
            int found = 0;
            for (int f = 0; f < world.text.size; f++) {
                found += world.hasFrame(one, f) && world.hasFrame(other, f) ? 1 : 0;
            }
            return found;
        }

        /** Down the trees: what it costs to free all beneath a deed of the second space's deeds, or to let it go. */
        private int cost(Deed d, boolean isBeneath, int one, int other) {
            int beneath = 0;
            boolean isGate = isBeneath && d.space != one;
            for (Deed h : d.heirs) {
                beneath += cost(h, isBeneath || d.space == one, one, other);
            }
            if (isGate && d.space == other) {
                return 1;
            }
            return isGate ? Math.min(1, beneath) : beneath;
        }

        int gates(int one, int other) {
            if (!world.isSpace(one) || !world.isSpace(other) || one == other) {
                return -1;
            }
            return world.deeds.stream().filter(d -> d.giver == null).mapToInt(d -> cost(d, false, one, other)).sum();
        }

        int gap(int s, int order) {
            if (!world.isSpace(s) || order < 0 || order > 3) {
                return -1;
            }
            for (int p = 0; p < world.text.size; p++) {
                if (world.isRegion(p, order) && world.in(s, p, order).isEmpty()) {
                    return p;
                }
            }
            return -2;
        }

        int free(int s) {
            return world.isSpace(s) ? Math.min(world.quota(s), world.text.size) - world.pages(s) : -1;
        }

        int coldest(int s) {
            if (!world.isSpace(s)) {
                return -1;
            }
            return world.deedsOf(s).stream().min((a, b) -> Float.compare(a.age, b.age)).map(d -> d.place).orElse(-2);
        }

        int age(int s, int p) {
            if (!is(s, p)) {
                return -1;
            }
            return world.at(s, p) == null ? -2 : Float.floatToIntBits(world.at(s, p).age);
        }

        int warmth(int s) {
            return world.isSpace(s) ? Float.floatToIntBits(world.warmth(s)) : -1;
        }

        int ratio(int one, int other) {
            if (!world.isSpace(one) || !world.isSpace(other)) {
                return -1;
            }
            float by = world.warmth(other);
            return by == 0 ? -2 : (int) (world.warmth(one) * 100f / by);
        }

        int cool(int s) {
            if (!world.isSpace(s)) {
                return -1;
            }
            World trial = world.copy();
            for (int i = 0; i < 100; i++) {
                if (trial.warmth(s) < 1) {
                    return i;
                }
                trial.tick();
            }
            return -2;
        }

        int kept(int s) {
            if (!world.isSpace(s)) {
                return -1;
            }
            int sum = 0;
            for (int line = 0; line < world.text.size / 8; line++) {
                sum += world.wide.contains(100 * s + line) ? 16 : world.in(s, 8 * line, 3).isEmpty() ? 0 : 8;
            }
            return sum;
        }

        int job(int k, int what) {
            if (k < 0 || k >= world.jobs.size() || what < 0 || what > 3) {
                return -1;
            }
            Job j = world.jobs.get(k);
            return new int[] {j.space, j.place, j.left.size(), j.rights}[what];
        }

        int waits(int s, int what) {
            if (!world.isSpace(s) || what < 0 || what > 3) {
                return -1;
            }
            int[] row = world.wait(s);
            if (row == null) {
                return what == 0 ? 0 : -2;
            }
            int ahead = world.waitingFor(world.text.pagers.get(s)).indexOf(row);
            return new int[] {1, row[1], row[2], ahead}[what];
        }

        int lost(int s, int region, int what) {
            int order = region & 3;
            int place = region >> 2;
            if (!world.isSpace(s) || !world.isRegion(place, order) || what < 0 || what > 1) {
                return -1;
            }
            Set<Integer> frames = new HashSet<>();
            Set<Deed> all = new HashSet<>();
            for (Deed d : world.in(s, place, order)) {
                all.addAll(d.beneath());
                for (int p = place; p < place + (1 << order); p++) {
                    if (d.covers(p)) {
                        frames.add(d.frameAt(p));
                    }
                }
            }
            if (frames.isEmpty()) {
                return -2;
            }
            int pages = 0;
            Set<Integer> spaces = new HashSet<>();
            for (Deed d : all) {
                for (int f = d.frame; f < d.frame + d.pages(); f++) {
                    if (frames.contains(f)) {
                        pages++;
                        spaces.add(d.space);
                    }
                }
            }
            return what == 0 ? pages : spaces.size();
        }

        int steps(int s, int region) {
            return world.copy().flush(s, region, 7, false);
        }

        int tried(int what) {
            World trial = world.copy();
            switch (what) {
                case 0:
                    trial.settle();
                    return trial.pages();
                case 1:
                    trial.settle();
                    return trial.refused - world.refused;
                case 2:
                    return trial.work(100000);
                case 3:
                    trial.work(100000);
                    return trial.pages();
                case 4:
                    for (int s = 0; s < trial.text.spaces.size(); s++) {
                        trial.tidy(s);
                    }
                    return trial.deeds.size();
                default:
                    return -1;
            }
        }

        int churn(int seed, int n) {
            if (n < 1 || n > 20 || seed < -1) {
                return -1;
            }
            if (world.text.spaces.isEmpty()) {
                return -2;
            }
            World trial = world.copy();
            long last = seed == -1 ? world.text.seed : seed;
            int hits = 0;
            for (int i = 0; i < n; i++) {
                int[] drawn = new int[3];
                for (int j = 0; j < 3; j++) {
                    last = (last * 1103515245L + 12345L) % 2147483648L;
                    drawn[j] = (int) (last / 65536);
                }
                int s = drawn[0] % trial.text.spaces.size();
                int p = drawn[1] % trial.text.size;
                int right = new int[] {1, 2, 4}[drawn[2] % 3];
                if (trial.wait(s) == null && trial.touch(s, p, right) >= 0) {
                    hits++;
                }
                trial.settle();
            }
            return hits;
        }

        int undo() {
            if (past.isEmpty()) {
                return -1;
            }
            world = past.remove(past.size() - 1);
            return past.size();
        }

        int count(int what) {
            int[] all = {world.text.spaces.size(), world.text.size, world.deeds.size(), world.pages(),
                world.jobs.size(), world.text.steps.size(), world.answers.size(), world.splits, world.faults,
                world.refused, world.worked, world.deeds.stream().mapToInt(d -> d.above().size()).max().orElse(0),
                past.size()};
            return what < 0 || what > 12 ? -1 : all[what];
        }
    }
}
