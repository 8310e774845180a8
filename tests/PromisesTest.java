import java.util.Random;

/**
 * Each promise of the document with ordinary calls, its edges and wrong calls. The answers were worked out from the
 * document (floats and draws by a few lines of Java here), not copied from the program.
 */
final class PromisesTest extends Probe {
    private PromisesTest() {
    }

    public static void main(String[] args) {
        runAll(PromisesTest.class);
    }

    private static void newObject() {
        FrameHeirs x = new FrameHeirs();
        due(1, "count(0)", x.count(0), 0);
        due(1, "count(1)", x.count(1), 16);
        due(1, "text(1)", x.text(1), -2);
        due(1, "text(0)", x.text(0), 0);
        due(1, "feed", x.feed(0, 0, 0, 0, 0), 20);
        due(1, "NONE", FrameHeirs.NONE, -1);
    }

    private static void feeding() {
        FrameHeirs x = new FrameHeirs();
        for (int i = 1; i <= 35; i++) {
            due(2, "feed " + i, x.feed(0x20202020, 0x0a0a0a0a, 0x20202020, 0x20202020, 0x20202020), 20 * i);
        }
        due(2, "feed beyond 700", x.feed(1, 2, 3, 4, 5), NONE);
        due(2, "feed beyond 700 again", x.feed(1, 2, 3, 4, 5), NONE);
        due(2, "text(701)", x.text(701), -2);
        due(2, "text(700) of blanks", x.text(700), 0);
        due(2, "feed then", x.feed(0x73697a65, 0x20323b20, -1, 0, 0), 20);
        due(2, "text: size 2;", x.text(7), NONE);
        due(2, "its place: highest byte first", x.fault(1), 5);
        x.feed(0x7365656b, 0, 0, 0, 0);
        x.feed(0x73656564, 0x20313bff, -1, 0, 0);
        due(2, "the second row is behind the first", x.text(40), NONE);
        due(2, "seek is no word of the language", x.fault(1), 0);
        x.feed(0x73656564, 0x20313bff, -1, 0, 0);
        due(2, "byte 255", x.text(8), NONE);
        due(2, "byte 255's place", x.fault(1), 7);
    }

    private static void texts() {
        FrameHeirs x = new FrameHeirs();
        due(3, "text", tell(x, "space a;\nspace b;pager b a 3;size8;budget09;decay 1;seed 99999 ; quota a 32;"), 8);
        due(3, "size", x.count(1), 8);
        due(3, "a name again", tell(x, "space c;space c;"), NONE);
        due(3, "all else stays", x.count(0), 2);
        due(3, "the tape is empty", x.text(1), -2);
        due(3, "map", x.map(0, 0, 1, 0, 7), 1);
        due(3, "touch", x.touch(1, 1, 1), -2);
        feedAll(x, "space q;");
        due(3, "more than there are", x.text(21), -2);
        due(3, "below 0", x.text(-1), -2);
        due(3, "least number", x.text(Integer.MIN_VALUE), -2);
        due(3, "the tape stays", x.text(8), 1);
        due(3, "nothing to undo", x.undo(), NONE);
        due(3, "nobody waits", x.waits(0, 0), 0);
        due(3, "no faults counted", x.count(8), 0);
        due(3, "pages", x.count(3), 16);
        due(3, "only the first n bytes", tell(x, ""), 0);
        due(3, "no spaces", x.count(0), 0);
        due(3, "no deeds", x.count(2), 0);
    }

    private static void fault(String text, int kind, int place) {
        FrameHeirs x = new FrameHeirs();
        int answer = tell(x, text);
        due(4, "text " + text, answer >= 0 ? 0 : answer, kind == 0 ? 0 : NONE);
        due(4, "fault(0) of " + text, x.fault(0), kind);
        due(4, "fault(1) of " + text, x.fault(1), place);
    }

    private static void faults() {
        fault("", 0, NONE);
        fault("space a;", 0, NONE);
        fault("space a", 1, 7);
        fault("space a  ", 1, 9);
        fault("space ", 1, 6);
        fault(";", 1, 0);
        fault("space a;;", 1, 8);
        fault("a;", 1, 0);
        fault("7;", 1, 0);
        fault("space 7;", 1, 6);
        fault("space map;", 1, 6);
        fault("space budget;", 1, 6);
        fault("space abcdef;", 0, NONE);
        fault("space abcdefg;", 1, 6);
        fault("space a b;", 1, 8);
        fault("space A;", 1, 6);
        fault("space\ta;", 1, 5);
        fault("spacea;", 1, 0);
        fault("size x;", 1, 5);
        fault("size 24;", 2, 5);
        fault("size 00032;", 0, NONE);
        fault("size 99999999999999999999;", 2, 5);
        fault("seed 4294967296;", 2, 5);
        fault("seed 0;budget 0;decay 1;", 0, NONE);
        fault("budget 9;seed 00;", 0, NONE);
        fault("seed 99999;seed 0;", 3, 11);
        fault("decay 9;decay 9;", 3, 8);
        fault("space a;serve a;size 8;", 1, 16);
        fault("size 8;space a;serve a;size 8;", 1, 23);
        fault("space a;space b;quota b 5;quota a 5;", 0, NONE);
        fault("space a;space b;quota b 5;quota b 50;", 3, 32);
        fault("space a;quota a 33;", 2, 16);
        fault("space a;space b;pager b a 4;", 2, 26);
        fault("space a;space b;pager a b 0;", 5, 22);
        fault("space a;space b;pager b b 9;", 5, 24);
        fault("space a;space b;space c;pager b c 0;pager c b 0;", 0, NONE);
        fault("space a;space b;space c;pager b c 0;pager b a 0;", 3, 42);
        fault("space a;pager b a 0;space b;", 4, 14);
        fault("space a;space b;space c;space d;space e;space f;space 7", 2, 48);
        fault("space a;map a 31 a 31 3 7;grant a 0 a 0 0;flush a 0 0 1 1;touch a 31 3;serve a;", 0, NONE);
        fault("space a;map a 32 a 0 0 1;", 2, 14);
        fault("space a;map a 0 a 32 0 1;", 2, 18);
        fault("space a;map a 0 a 0 4 1;", 2, 20);
        fault("space a;map a 0 a 0 0 0;", 2, 22);
        fault("space a;map a 0 a 0 0 8;", 2, 22);
        fault("space a;grant a 0 b 0 0;", 4, 18);
        fault("space a;grant a 0 a 0 4;", 2, 22);
        fault("space a;flush a 0 0 0 0;", 2, 20);
        fault("space a;flush a 0 0 1 2;", 2, 22);
        fault("space a;touch a 0 0;", 2, 18);
        fault("space a;touch a 0 5;", 2, 18);
        fault("space a;serve a 0;", 1, 16);
        String steps = "space a;" + "serve a;".repeat(24);
        fault(steps, 0, NONE);
        fault(steps + "serve 5", 2, 200);
        fault(steps + "space b;", 0, NONE);
        FrameHeirs x = told("space a;");
        due(4, "fault(2)", x.fault(2), NONE);
        due(4, "fault(-1)", x.fault(-1), NONE);
        tell(x, "x;");
        x.text(500);
        due(4, "of the latest that wasn't -2", x.fault(0), 1);
        tell(x, "seed 1;");
        due(4, "no fault again", x.fault(0), 0);
        due(4, "no place again", x.fault(1), NONE);
    }

    private static void names() {
        FrameHeirs x = told("space z;space abcdef;");
        due(5, "z", x.named(26 << 25), 0);
        due(5, "abcdef", x.named(1 << 25 | 2 << 20 | 3 << 15 | 4 << 10 | 5 << 5 | 6), 1);
        due(5, "y", x.named(25 << 25), NONE);
        due(5, "0", x.named(0), NONE);
        due(5, "z by low bits", x.named(26), NONE);
        due(5, "-1", x.named(-1), NONE);
    }

    private static void maps() {
        FrameHeirs x = told("size 16;space r;space a;space b;quota b 3;");
        due(6, "a part of a greater one", x.map(0, region(4, 2), 1, 8, 5), 1);
        due(6, "no cut", deed(x, 0, 4, 2), 3);
        due(6, "its frame", deed(x, 1, 9, 0), 5);
        due(6, "its rights", deed(x, 1, 9, 1), 5);
        due(6, "its age", x.age(1, 9), 0);
        due(6, "one page more", x.map(0, region(3, 0), 1, 13, 2), 1);
        due(6, "its line is the last heir", x.heir(0, 0, 1), 32 + 13);
        due(6, "two deeds, one has no right", x.map(1, region(8, 3), 2, 8, 2), 1);
        due(6, "as far from the first place", deed(x, 2, 13, 0), 3);
        due(6, "nothing where none are in both", deed(x, 2, 8, 0), -2);
        due(6, "nearest: a deed there, no rights", x.map(1, region(8, 2), 2, 12, 2), -4);
        due(6, "no rights", x.map(1, region(8, 2), 2, 8, 2), -5);
        due(6, "over the quota", x.map(1, region(8, 2), 2, 8, 1), -6);
        due(6, "just the quota", x.map(1, region(8, 1), 2, 8, 1), 1);
        due(6, "no deed, one in the way", x.map(1, region(0, 0), 2, 8, 7), -2);
        due(6, "two deeds of a region", x.map(1, region(8, 3), 0, 0, 7), -4);
        due(6, "flush", x.flush(1, region(8, 1), 1, false), 1);
        due(6, "busy", x.map(1, region(8, 1), 2, 0, 7), -3);
        due(6, "beneath a busy one", x.map(2, region(8, 0), 1, 0, 7), -3);
        due(6, "a busy one beneath is fine", x.map(0, region(4, 0), 1, 0, 7), 1);
        due(6, "the same space", x.map(1, region(8, 0), 1, 0, 7), NONE);
        due(6, "no such space", x.map(3, region(8, 0), 1, 0, 7), NONE);
        due(6, "no such other space", x.map(0, region(8, 0), 3, 0, 7), NONE);
        due(6, "not a multiple", x.map(0, region(1, 1), 1, 0, 7), NONE);
        due(6, "not a multiple there", x.map(0, region(2, 1), 1, 1, 7), NONE);
        due(6, "beyond the places", x.map(0, region(16, 0), 1, 0, 7), NONE);
        due(6, "beyond the places there", x.map(0, region(0, 0), 1, 16, 7), NONE);
        due(6, "a great place there", x.map(0, region(0, 0), 1, 1 << 30, 7), NONE);
        due(6, "below 0", x.map(0, -4, 1, 0, 7), NONE);
        due(6, "below 0 there", x.map(0, 0, 1, -1, 7), NONE);
        due(6, "rights 0", x.map(0, 0, 1, 0, 0), NONE);
        due(6, "rights 8", x.map(0, 0, 1, 0, 8), NONE);
        FrameHeirs y = told("size 8;space r;space a;quota r 1;");
        y.grant(0, region(4, 2), 1, 4);
        due(6, "root's quota isn't looked at", y.map(1, region(4, 2), 0, 4, 7), 1);
    }

    private static void grants() {
        FrameHeirs x = told("size 16;space r;space a;space b;quota b 3;");
        x.map(0, region(0, 3), 1, 8, 7);
        x.touch(1, 8, 1);
        x.map(1, region(10, 1), 2, 0, 3);
        due(7, "over the quota", x.grant(1, region(8, 1), 2, 4), -5);
        due(7, "nothing is cut by that", x.count(7), 0);
        due(7, "a page", x.grant(1, region(10, 0), 2, 2), 1);
        due(7, "the giver's whole tree is split above no more than need be", x.count(7), 4);
        due(7, "it has its heir", x.heir(2, 2, 0), 64);
        due(7, "its giver", x.above(2, 2, 1), 2);
        due(7, "its age", x.age(2, 2), Float.floatToIntBits(1f));
        due(7, "its rights", deed(x, 2, 2, 1), 7);
        due(7, "heirs of root's in their order", x.heir(0, 0, 0), 40);
        due(7, "the granted one keeps its place", x.heir(0, 0, 1), 66);
        due(7, "the upper one behind it", x.heir(0, 0, 2), 43);
        due(7, "then the rest", x.heir(0, 0, 3), 44);
        due(7, "none there", x.grant(1, region(10, 0), 2, 5), -2);
        due(7, "one in the way", x.grant(1, region(8, 0), 2, 2), -4);
        due(7, "several deeds of a region", x.grant(1, region(8, 3), 0, 8), -4);
        due(7, "root's away", x.grant(0, region(8, 3), 1, 0), 1);
        due(7, "without giver still", deed(x, 1, 0, 4), 0);
        due(7, "then several", x.grant(1, region(8, 3), 0, 8), 3);
        due(7, "two pages as they were", deed(x, 0, 9, 2), 1);
        due(7, "flush", x.flush(2, region(2, 0), 1, false), 1);
        due(7, "a busy one beneath", x.grant(0, region(0, 3), 2, 8), -3);
        due(7, "busy", x.grant(2, region(2, 0), 1, 8), -3);
        due(7, "the same space", x.grant(1, region(8, 0), 1, 9), NONE);
        due(7, "no such space", x.grant(-1, region(8, 0), 1, 9), NONE);
        due(7, "no such region", x.grant(0, region(9, 1), 1, 8), NONE);
        due(7, "no such region there", x.grant(0, region(8, 1), 1, 9), NONE);
        due(7, "least number", x.grant(0, Integer.MIN_VALUE, 1, 0), NONE);
    }

    private static void flushes() {
        FrameHeirs x = told("size 16;space r;space a;space b;space c;");
        x.map(0, region(0, 3), 1, 0, 7);
        x.map(1, region(4, 2), 2, 0, 7);
        x.map(1, region(0, 2), 3, 0, 3);
        due(8, "a cut without a job", x.flush(2, region(0, 0), 7, false), 0);
        due(8, "it is done all the same", x.count(7), 2);
        due(8, "no job", x.count(4), 0);
        due(8, "none there", x.flush(2, region(8, 3), 7, false), -2);
        due(8, "itself without giver", x.flush(0, region(0, 3), 7, true), -4);
        due(8, "with itself: b's three, c's one, its own", x.flush(1, region(0, 3), 2, true), 5);
        due(8, "job's space", x.job(0, 0), 1);
        due(8, "busy", x.flush(2, region(0, 0), 1, false), -3);
        due(8, "busy beneath", x.flush(0, region(0, 3), 1, false), -3);
        due(8, "busy beneath, ahead of itself without giver", x.flush(0, region(4, 2), 1, true), -3);
        due(8, "another one without heirs", x.flush(0, region(8, 3), 1, false), 0);
        due(8, "no such space", x.flush(4, region(8, 3), 1, false), NONE);
        due(8, "no such region", x.flush(0, region(12, 3), 1, false), NONE);
        due(8, "no such rights", x.flush(0, region(8, 3), 8, false), NONE);
        due(8, "rights 0", x.flush(0, region(8, 3), 0, false), NONE);
        due(33, "left", x.job(0, 2), 5);
        due(33, "rights", x.job(0, 3), 2);
        due(33, "no such job", x.job(1, 0), NONE);
        due(33, "job -1", x.job(-1, 0), NONE);
        due(33, "no such what", x.job(0, 4), NONE);
        due(33, "what -1", x.job(0, -1), NONE);
    }

    /** A deed of root's own that came round by another space is a top beneath a top. */
    private static void topBeneathTop() {
        FrameHeirs x = told("size 8;space r;space a;space b;");
        x.grant(0, region(0, 0), 2, 7);
        x.map(0, region(1, 0), 1, 0, 7);
        due(8, "round to root", x.map(1, region(0, 0), 0, 0, 7), 1);
        x.map(0, region(0, 0), 2, 0, 7);
        due(8, "each once", x.flush(0, region(0, 1), 7, false), 3);
        x.work(1);
        due(9, "first the one beneath the first top", deed(x, 2, 0, 0), -2);
        due(9, "then the top beneath the other", deed(x, 0, 0, 0), 1);
        x.work(1);
        due(9, "it is gone", deed(x, 0, 0, 0), -2);
        due(9, "the last one", deed(x, 1, 0, 7), 1);
        due(9, "over", x.work(5), 1);
        due(9, "what is left", x.count(3), 8);
    }

    private static void works() {
        FrameHeirs x = told("size 8;space r;space a;space b;");
        x.map(0, region(0, 0), 1, 0, 7);
        x.map(1, region(0, 0), 2, 0, 3);
        x.map(0, region(2, 1), 1, 2, 1);
        due(9, "flush", x.flush(0, region(0, 0), 3, false), 2);
        due(9, "flush again", x.flush(0, region(2, 1), 1, false), 1);
        due(9, "none", x.work(0), 0);
        due(9, "one", x.work(1), 1);
        due(9, "the deepest goes", deed(x, 2, 0, 1), -2);
        due(9, "its giver is not done", deed(x, 1, 0, 1), 7);
        due(9, "its giver is busy", deed(x, 1, 0, 7), 1);
        due(9, "the top is busy", deed(x, 0, 0, 7), 1);
        due(9, "one more", x.work(1), 1);
        due(9, "rights left", deed(x, 1, 0, 1), 4);
        due(9, "busy no more", deed(x, 0, 0, 7), 0);
        due(9, "the next job is the first", x.job(0, 1), 2);
        due(9, "no more than there are", x.work(99), 1);
        due(9, "gone", deed(x, 1, 3, 0), -2);
        due(9, "counted", x.count(10), 3);
        due(9, "100", x.work(100), NONE);
        due(9, "-1", x.work(-1), NONE);
    }

    private static void touches() {
        FrameHeirs x = told("size 8;space r;space a;space b;space c;pager b r 0;pager c r 0;");
        x.map(0, region(4, 2), 1, 0, 3);
        due(10, "hit", x.touch(1, 3, 2), 7);
        due(10, "hit again", x.touch(1, 0, 1), 4);
        due(10, "age of all its pages", x.age(1, 1), Float.floatToIntBits(2f));
        due(10, "no right, no pager", x.touch(1, 3, 4), -3);
        due(10, "no deed, no pager", x.touch(1, 4, 1), -3);
        due(10, "not counted", x.count(8), 0);
        due(10, "fault", x.touch(2, 5, 4), -2);
        due(10, "counted", x.count(8), 1);
        due(10, "it waits", x.touch(2, 5, 4), NONE);
        due(10, "another one", x.touch(3, 0, 1), -2);
        due(10, "right 3", x.touch(1, 0, 3), NONE);
        due(10, "right 0", x.touch(1, 0, 0), NONE);
        due(10, "right 8", x.touch(1, 0, 8), NONE);
        due(10, "place 8", x.touch(1, 8, 1), NONE);
        due(10, "place -1", x.touch(1, -1, 1), NONE);
        due(10, "space 4", x.touch(4, 0, 1), NONE);
        due(34, "waits", x.waits(2, 0), 1);
        due(34, "place", x.waits(2, 1), 5);
        due(34, "right", x.waits(2, 2), 4);
        due(34, "nobody ahead", x.waits(2, 3), 0);
        due(34, "one ahead", x.waits(3, 3), 1);
        due(34, "waits not", x.waits(1, 0), 0);
        due(34, "waits not, place", x.waits(1, 1), -2);
        due(34, "waits not, ahead", x.waits(1, 3), -2);
        due(34, "no such what", x.waits(1, 4), NONE);
        due(34, "what -1", x.waits(2, -1), NONE);
        due(34, "no such space", x.waits(4, 0), NONE);
    }

    private static void serves() {
        FrameHeirs x = told("size 8;space r;space a;space b;pager a r 0;pager b a 0;");
        due(11, "nobody waits", x.serve(0), -2);
        due(11, "no such space", x.serve(3), NONE);
        due(11, "space -1", x.serve(-1), NONE);
        x.touch(2, 3, 2);
        due(11, "the pager faults itself", x.serve(1), -6);
        due(11, "and waits", x.serve(1), -4);
        due(11, "faults", x.count(8), 2);
        due(11, "root serves", x.serve(0), 3);
        due(11, "then it serves", x.serve(1), 3);
        due(11, "rights: that and 1", deed(x, 2, 3, 1), 3);
        due(11, "age", x.age(2, 3), Float.floatToIntBits(1f));
        due(11, "its giver", x.above(2, 3, 1), 32 + 3);
        due(11, "waits no more", x.waits(2, 0), 0);
        x.map(0, region(4, 2), 1, 4, 1);
        x.touch(1, 5, 4);
        due(11, "what it has there is cut and goes", x.serve(0), 5);
        due(11, "of one page now", deed(x, 1, 5, 2), 0);
        due(11, "rights", deed(x, 1, 5, 1), 5);
        due(11, "the neighbour", deed(x, 1, 4, 2), 0);
        due(11, "the other half", deed(x, 1, 6, 2), 1);
        due(11, "splits", x.count(7), 2);
        x.touch(1, 6, 4);
        x.flush(1, region(6, 0), 1, true);
        due(11, "its own is busy", x.serve(0), -3);
        due(11, "it waits on", x.waits(1, 0), 1);
        x.work(9);
        due(11, "then served", x.serve(0), 6);
        FrameHeirs y = told("size 8;space r;space a;space b;pager a b 0;pager b a 0;");
        y.touch(1, 0, 1);
        due(11, "round", y.serve(2), -6);
        due(11, "and round", y.serve(1), -4);
        due(11, "and round again", y.serve(2), -4);
        FrameHeirs z = told("size 8;space r;space a;space b;pager b a 0;");
        z.touch(2, 0, 1);
        due(11, "no pager's pager", z.serve(1), -5);
        due(11, "refused", z.count(9), 1);
        due(11, "waits no more", z.waits(2, 0), 0);
        FrameHeirs g = told("size 8;space r;space a;pager a r 0;");
        g.grant(0, region(0, 2), 1, 4);
        g.flush(1, region(4, 2), 1, false);
        due(11, "one that it has whole", g.touch(1, 0, 1), -2);
        due(11, "root lacks it", g.serve(0), -5);
    }

    private static void servesByWay() {
        FrameHeirs x = told("size 8;space r;space a;space b;space c;pager a r 1;pager b r 2;pager c r 3;");
        x.touch(1, 1, 1);
        x.touch(2, 1, 1);
        x.touch(3, 5, 1);
        due(11, "way 1", x.serve(0), 5);
        due(11, "way 2", x.serve(0), 6);
        due(11, "way 3: the first one", x.serve(0), 0);
        x.touch(1, 6, 1);
        due(11, "way 1, beyond the size", x.serve(0), 2);
        x.touch(3, 0, 1);
        due(11, "way 3: the next one", x.serve(0), 1);
        FrameHeirs y = told("size 8;space r;space a;space b;pager b a 3;");
        y.map(0, region(0, 0), 1, 4, 1);
        y.map(0, region(0, 0), 1, 6, 2);
        y.map(0, region(1, 0), 1, 7, 2);
        y.touch(2, 0, 2);
        due(11, "way 3: with the right", y.serve(1), 0);
        y.touch(2, 3, 2);
        due(11, "way 3: a frame that it hasn't", y.serve(1), 1);
        y.touch(2, 4, 2);
        due(11, "way 3: none, so the same place, which lacks it", y.serve(1), -5);
        due(11, "way 3: another place", y.touch(2, 6, 2), -2);
        due(11, "way 3: none, so the same place", y.serve(1), 0);
        due(21, "twice", y.aliases(2, 0), 2);
    }

    private static void servesFull() {
        FrameHeirs x = told("size 8;space r;space a;space b;pager a r 0;quota a 3;");
        x.map(0, region(0, 1), 1, 0, 7);
        x.map(0, region(2, 0), 1, 2, 7);
        x.touch(1, 0, 1);
        x.touch(1, 2, 1);
        x.map(1, region(2, 0), 2, 0, 7);
        x.touch(1, 5, 1);
        due(11, "the coldest goes, of several the first", x.serve(0), 5);
        due(11, "both its pages", x.count(3), 11);
        x.touch(1, 5, 1);
        x.touch(1, 6, 1);
        due(11, "room is left", x.serve(0), 6);
        x.touch(1, 7, 1);
        due(11, "the coldest, with its heir", x.serve(0), 7);
        due(11, "gone", deed(x, 1, 2, 0), -2);
        due(11, "its heir", deed(x, 2, 0, 0), -2);
        x.flush(0, region(7, 0), 2, false);
        x.flush(0, region(6, 0), 2, false);
        x.touch(1, 0, 1);
        due(11, "not a busy one", x.serve(0), 0);
        due(11, "the warmer one went", deed(x, 1, 5, 0), -2);
        FrameHeirs y = told("size 8;space r;space a;space b;pager a r 0;quota a 1;");
        y.map(0, region(3, 0), 1, 3, 7);
        y.map(1, region(3, 0), 2, 3, 7);
        y.flush(2, region(3, 0), 2, true);
        y.touch(1, 4, 1);
        due(11, "none may go: it has a busy one beneath", y.serve(0), -5);
        due(11, "it stays", deed(y, 1, 3, 0), 3);
        FrameHeirs z = told("size 8;space r;space a;pager a r 0;quota a 1;");
        z.grant(0, region(3, 0), 1, 3);
        z.touch(1, 4, 1);
        due(11, "none may go: it has no giver", z.serve(0), -5);
        z.touch(1, 3, 1);
        due(11, "nobody waits", z.serve(0), -2);
    }

    /** The page that the pager would give comes from what must go for it. */
    private static void servesRound() {
        FrameHeirs x = told("size 8;space r;space a;space b;pager b a 0;quota b 1;");
        x.map(0, region(0, 0), 2, 3, 7);
        x.map(2, region(3, 0), 1, 5, 7);
        x.touch(2, 5, 1);
        due(11, "what it would give is gone", x.serve(1), -5);
        due(11, "what went is gone", x.count(3), 8);
        FrameHeirs y = told("size 8;space r;space a;space b;pager b a 0;");
        y.map(0, region(0, 1), 2, 4, 3);
        y.map(2, region(4, 1), 1, 4, 3);
        y.map(0, region(5, 0), 1, 7, 7);
        y.touch(2, 7, 4);
        due(11, "served", y.serve(1), 5);
        y.flush(2, region(4, 1), 2, true);
        due(11, "flush", y.work(9), 2);
        y.touch(2, 4, 2);
        due(11, "pager lacks it and has no pager", y.serve(1), -5);
        y.touch(2, 5, 2);
        due(11, "and so on", y.serve(1), -5);
        FrameHeirs z = told("size 8;space r;space a;space b;pager b a 1;");
        z.map(0, region(0, 2), 2, 0, 1);
        z.map(0, region(4, 2), 1, 4, 7);
        z.touch(2, 1, 4);
        due(11, "its own page is cut out", z.serve(1), 5);
        due(11, "the others stay", z.count(3), 8 + 4 + 4);
        due(11, "splits", z.count(7), 2);
    }

    private static void settles() {
        FrameHeirs x = told("size 8;space r;space a;space b;space c;pager a r 0;pager b a 0;pager c b 2;");
        due(12, "nobody", x.settle(), 0);
        x.touch(3, 1, 1);
        due(12, "along the pagers", x.settle(), 3);
        due(12, "frames", deed(x, 3, 1, 0), 6);
        x.touch(1, 6, 4);
        x.touch(2, 0, 1);
        x.touch(3, 7, 2);
        due(12, "several, who must ask twice for another right", x.settle(), 6);
        FrameHeirs y = told("size 8;space r;space a;space b;pager b a 0;");
        y.touch(2, 0, 1);
        due(37, "would be refused", y.tried(1), 1);
        due(37, "pages then", y.tried(0), 8);
        due(12, "a refused one isn't served", y.settle(), 0);
        due(12, "refused", y.count(9), 1);
        FrameHeirs z = new FrameHeirs();
        due(12, "no spaces", z.settle(), 0);
    }

    private static void ticks() {
        FrameHeirs x = told("size 8;decay 3;space r;space a;");
        x.map(0, region(0, 0), 1, 0, 7);
        x.touch(1, 0, 1);
        x.touch(1, 0, 1);
        due(13, "deeds", x.tick(), 2);
        due(13, "age", x.age(1, 0), Float.floatToIntBits(2f * 0.3f));
        x.tick();
        due(13, "age again", x.age(1, 0), Float.floatToIntBits(2f * 0.3f * 0.3f));
        due(13, "root's", x.age(0, 0), 0);
        due(13, "no spaces", new FrameHeirs().tick(), 0);
        FrameHeirs y = told("space r;");
        y.touch(0, 0, 1);
        y.tick();
        due(13, "decay is 5 untold", y.age(0, 0), Float.floatToIntBits(0.5f));
    }

    private static void tidies() {
        FrameHeirs x = told("size 8;space r;space a;space b;");
        x.map(0, region(0, 3), 1, 0, 7);
        x.map(1, region(5, 0), 2, 1, 7);
        x.map(1, region(4, 0), 2, 0, 7);
        x.flush(1, region(4, 0), 7, false);
        x.touch(1, 4, 1);
        x.touch(1, 4, 1);
        x.touch(1, 6, 1);
        due(14, "busy ones are not joined", x.tidy(1), 0);
        x.work(9);
        due(14, "a cut splits nothing above", x.tidy(0), 0);
        due(14, "all halves of one giver", x.tidy(1), 3);
        due(14, "order", deed(x, 1, 7, 2), 3);
        due(14, "ages, half of both, three times", x.age(1, 0), Float.floatToIntBits(((2f + 0f) / 2f + 1f) / 2f / 2f));
        due(14, "heirs", deed(x, 1, 0, 5), 1);
        due(14, "its place among its giver's", x.heir(0, 0, 0), 32);
        due(14, "the heir's giver", x.above(2, 1, 1), 32 + 5);
        due(14, "no such space", x.tidy(3), NONE);
        due(14, "space -1", x.tidy(-1), NONE);
        FrameHeirs w = told("size 8;space r;space a;");
        w.map(0, region(0, 1), 1, 0, 6);
        w.flush(0, region(0, 0), 1, false);
        w.work(9);
        due(14, "heirs of two givers", w.tidy(1), 0);
        due(14, "the givers are joined first", w.tidy(0), 3);
        due(14, "then those of one giver", w.tidy(1), 1);
        FrameHeirs y = told("size 8;space r;space a;");
        y.map(0, region(0, 0), 1, 0, 7);
        y.map(0, region(1, 0), 1, 1, 3);
        due(14, "unlike rights", y.tidy(1), 0);
        y.map(0, region(2, 0), 1, 3, 7);
        y.map(0, region(3, 0), 1, 2, 7);
        due(14, "frames not in a row", y.tidy(1), 0);
        y.map(0, region(3, 0), 1, 4, 7);
        y.map(0, region(4, 0), 1, 5, 7);
        due(14, "a frame that is no multiple", y.tidy(1), 0);
        y.map(0, region(6, 0), 1, 6, 7);
        y.map(0, region(7, 0), 1, 7, 7);
        due(14, "two", y.tidy(1), 1);
        due(14, "order", deed(y, 1, 7, 2), 1);
        FrameHeirs z = told("size 16;space r;space a;");
        z.map(0, region(4, 2), 1, 4, 7);
        z.map(0, region(0, 2), 1, 0, 7);
        z.map(0, region(8, 0), 1, 8, 7);
        due(14, "in the wrong order among heirs all the same", z.tidy(1), 1);
        due(14, "at the lower one's place", z.heir(0, 0, 0), 32);
        due(14, "alone", deed(z, 0, 0, 5), 1);
    }

    private static void runs() {
        FrameHeirs x = told("size 8;budget 1;space r;space a;space b;map r 0 a 0 2 7;map a 0 b 0 2 7;"
            + "flush r 0 2 2 0;touch a 0 3;touch b 20 1;grant r 4 b 4 2;serve a;");
        due(16, "not done", x.answer(0), -9);
        due(16, "no such", x.answer(7), -10);
        due(16, "-1", x.answer(-1), -10);
        due(15, "none", x.run(0), 0);
        due(15, "25", x.run(25), NONE);
        due(15, "-1", x.run(-1), NONE);
        due(15, "three", x.run(3), 3);
        due(16, "map", x.answer(1), 1);
        due(16, "flush", x.answer(2), 2);
        due(15, "one step of work behind it", x.job(0, 2), 1);
        due(15, "one more", x.run(1), 1);
        due(16, "right 3: NONE", x.answer(3), NONE);
        due(15, "the job is over", x.count(4), 0);
        due(15, "no more than there are", x.run(24), 3);
        due(16, "place 20 of 8: NONE", x.answer(4), NONE);
        due(16, "grant", x.answer(5), 1);
        due(16, "serve", x.answer(6), -2);
        due(15, "then none", x.run(24), 0);
        due(15, "steps done", x.count(6), 7);
        due(15, "one undo each", x.count(12), 5);
        FrameHeirs y = told("size 8;space r;space a;map r 0 a 0 0 7;map r 1 a 1 0 7;map r 2 a 2 0 7;flush r 0 3 7 0;");
        due(15, "all", y.run(4), 4);
        due(15, "budget 2 untold", y.count(10), 2);
    }

    private static void deeds() {
        FrameHeirs x = told("size 16;space r;space a;space b;");
        x.map(0, region(8, 2), 1, 4, 6);
        x.map(1, region(6, 1), 2, 0, 2);
        x.map(1, region(6, 0), 2, 2, 7);
        due(17, "frame", deed(x, 1, 6, 0), 10);
        due(17, "rights", deed(x, 1, 6, 1), 6);
        due(17, "order", deed(x, 1, 6, 2), 2);
        due(17, "first place", deed(x, 1, 6, 3), 4);
        due(17, "above", deed(x, 2, 1, 4), 2);
        due(17, "heirs", deed(x, 1, 6, 5), 2);
        due(17, "beneath", deed(x, 0, 8, 6), 3);
        due(17, "busy", deed(x, 0, 8, 7), 0);
        due(17, "none", deed(x, 2, 3, 7), -2);
        due(17, "none, no such what", deed(x, 2, 3, 8), NO_ELEMENT);
        due(17, "what -1", deed(x, 1, 6, -1), NO_ELEMENT);
        due(17, "no such place", deed(x, 1, 16, 0), INDEX);
        due(17, "place -1, what -1", deed(x, 1, -1, -1), INDEX);
        due(17, "no such space, no such what", deed(x, 3, 0, 9), INDEX);
        due(17, "space -1", deed(x, -1, 0, 0), INDEX);
        due(18, "giver", x.above(2, 1, 1), 32 + 7);
        due(18, "its giver", x.above(2, 1, 2), 11);
        due(18, "no more", x.above(2, 1, 3), -2);
        due(18, "no deed", x.above(2, 5, 1), -2);
        due(18, "k 0", x.above(2, 1, 0), NONE);
        due(18, "no such place", x.above(2, 16, 1), NONE);
        due(18, "no such space", x.above(3, 1, 1), NONE);
        due(19, "first", x.heir(1, 5, 0), 64);
        due(19, "second", x.heir(1, 5, 1), 66);
        due(19, "no more", x.heir(1, 5, 2), -2);
        due(19, "no deed", x.heir(1, 0, 0), -2);
        due(19, "k -1", x.heir(1, 5, -1), NONE);
        due(19, "no such place", x.heir(1, -1, 0), NONE);
        due(19, "no such space", x.heir(-1, 1, 0), NONE);
    }

    private static void holders() {
        FrameHeirs x = told("size 8;space r;space a;space b;");
        x.map(0, region(0, 1), 1, 0, 3);
        x.map(0, region(0, 0), 2, 5, 1);
        x.map(0, region(0, 1), 2, 6, 4);
        due(20, "by right 1", x.holds(0, 1), 7);
        due(20, "by right 4", x.holds(0, 4), 5);
        due(20, "by rights in two deeds", x.holds(0, 5), 1);
        due(20, "by rights 3", x.holds(1, 3), 3);
        due(20, "frame 8", x.holds(8, 1), NONE);
        due(20, "frame -1", x.holds(-1, 1), NONE);
        due(20, "rights 0", x.holds(0, 0), NONE);
        due(20, "rights 8", x.holds(0, 8), NONE);
        due(21, "two places", x.aliases(2, 0), 2);
        due(21, "one place", x.aliases(2, 1), 1);
        due(21, "none", x.aliases(2, 2), 0);
        due(21, "frame 8", x.aliases(2, 8), NONE);
        due(21, "space 3", x.aliases(3, 0), NONE);
        due(23, "both", x.shared(1, 2), 2);
        due(23, "with root", x.shared(0, 2), 2);
        due(23, "with itself", x.shared(2, 2), 2);
        due(23, "space 3", x.shared(0, 3), NONE);
        due(23, "space -1", x.shared(-1, 0), NONE);
        FrameHeirs y = told("size 32;space r;");
        due(20, "frame 31", y.holds(31, 7), 1);
        due(23, "32 frames", y.shared(0, 0), 32);
    }

    private static void reaches() {
        FrameHeirs x = told("size 8;space r;space a;space b;");
        x.map(0, region(0, 2), 1, 0, 7);
        x.map(1, region(0, 1), 2, 0, 7);
        x.map(0, region(7, 0), 2, 7, 7);
        x.map(2, region(0, 0), 1, 6, 7);
        due(22, "root to b", x.reach(0, 2), 3);
        due(22, "a to b", x.reach(1, 2), 2);
        due(22, "b to a", x.reach(2, 1), 1);
        due(22, "a to itself", x.reach(1, 1), 1);
        due(22, "root to itself", x.reach(0, 0), 0);
        due(22, "space 3", x.reach(3, 0), NONE);
        due(22, "space -1", x.reach(0, -1), NONE);
    }

    private static void gates() {
        FrameHeirs x = told("size 8;space r;space a;space b;space c;");
        x.map(0, region(0, 2), 1, 0, 7);
        x.map(1, region(0, 0), 2, 0, 7);
        x.map(1, region(1, 0), 2, 1, 7);
        due(24, "one of a's parts them", x.gates(0, 2), 1);
        due(24, "two of its own", x.gates(1, 2), 2);
        x.map(0, region(6, 0), 2, 6, 7);
        due(24, "one more by itself", x.gates(0, 2), 2);
        x.map(2, region(0, 0), 3, 0, 7);
        x.map(3, region(0, 0), 1, 7, 7);
        x.map(1, region(7, 0), 2, 7, 7);
        due(24, "c's part beneath is of a's again", x.gates(3, 2), 1);
        due(24, "the highest part all", x.gates(1, 2), 2);
        due(24, "none", x.gates(2, 0), 0);
        due(24, "the same", x.gates(1, 1), NONE);
        due(24, "space 4", x.gates(1, 4), NONE);
        due(24, "space -1", x.gates(-1, 1), NONE);
    }

    private static void gaps() {
        FrameHeirs x = told("size 16;space r;space a;quota a 5;quota r 1;");
        x.map(0, region(0, 0), 1, 0, 7);
        x.map(0, region(0, 1), 1, 4, 7);
        due(25, "order 0", x.gap(1, 0), 1);
        due(25, "order 1", x.gap(1, 1), 2);
        due(25, "order 2", x.gap(1, 2), 8);
        due(25, "order 3", x.gap(1, 3), 8);
        due(25, "none", x.gap(0, 0), -2);
        due(25, "order 4", x.gap(1, 4), NONE);
        due(25, "order -1", x.gap(1, -1), NONE);
        due(25, "space 2", x.gap(2, 0), NONE);
        due(26, "by its quota", x.free(1), 2);
        due(26, "root", x.free(0), 0);
        x.grant(0, region(8, 0), 1, 8);
        due(26, "root by its places", x.free(0), 1);
        due(26, "one less", x.free(1), 1);
        due(26, "space 2", x.free(2), NONE);
        due(26, "space -1", x.free(-1), NONE);
        due(26, "by its places", told("size 8;space r;space a;").free(1), 8);
    }

    private static void warmths() {
        FrameHeirs x = told("size 8;decay 7;space r;space a;space b;");
        x.map(0, region(4, 2), 1, 4, 7);
        x.map(0, region(2, 0), 1, 2, 7);
        x.map(0, region(3, 0), 1, 3, 7);
        due(27, "all alike: the first", x.coldest(1), 2);
        x.touch(1, 2, 1);
        due(27, "the next", x.coldest(1), 3);
        x.touch(1, 3, 1);
        x.touch(1, 3, 1);
        due(27, "the larger one", x.coldest(1), 4);
        due(27, "none", x.coldest(2), -2);
        due(27, "space 3", x.coldest(3), NONE);
        due(27, "busy or without giver, too", x.coldest(0), 0);
        x.touch(1, 5, 1);
        x.tick();
        float age = 1f * 0.7f;
        float two = 2f * 0.7f;
        due(28, "age", x.age(1, 7), Float.floatToIntBits(age));
        due(28, "age 2", x.age(1, 3), Float.floatToIntBits(two));
        due(28, "none", x.age(1, 0), -2);
        due(28, "place 8", x.age(1, 8), NONE);
        due(28, "space 3", x.age(3, 0), NONE);
        float warmth = ((0f + age) + two) + age * 4f;
        due(29, "warmth", x.warmth(1), Float.floatToIntBits(warmth));
        due(29, "root's", x.warmth(0), 0);
        due(29, "none", x.warmth(2), 0);
        due(29, "space 3", x.warmth(3), NONE);
        due(30, "by 0", x.ratio(1, 0), -2);
        due(30, "of 0", x.ratio(0, 1), 0);
        due(30, "by itself", x.ratio(1, 1), 100);
        x.touch(0, 0, 1);
        due(30, "towards 0", x.ratio(1, 0), (int) (warmth * 100f / 8f));
        due(30, "space 3", x.ratio(3, 0), NONE);
        due(30, "space -1", x.ratio(0, -1), NONE);
        due(31, "cool", x.cool(1), 5);
        due(31, "cool already", x.cool(2), 0);
        due(31, "root: 8, so six", x.cool(0), 6);
        due(31, "space 3", x.cool(3), NONE);
        due(31, "nothing changed", x.warmth(1), Float.floatToIntBits(warmth));
    }

    private static void smallAges() {
        FrameHeirs x = told("size 8;decay 1;space r;space a;");
        x.map(0, region(0, 0), 1, 0, 7);
        x.touch(1, 0, 1);
        float age = 1f;
        for (int i = 0; i < 50; i++) {
            due(28, "after " + i + " ticks", x.age(1, 0), Float.floatToIntBits(age));
            age *= 0.1f;
            x.tick();
            if (age > 0f && i > 20) {
                x.touch(0, 0, 1);
                due(30, "a great one", x.ratio(0, 1), 2147483647);
                x.undo();
            }
        }
        due(28, "0 at last", x.age(1, 0), 0);
        due(30, "by 0 then", x.ratio(0, 1), -2);
    }

    private static void kepts() {
        FrameHeirs x = told("size 16;space r;space a;space b;");
        due(32, "root", x.kept(0), 32);
        due(32, "none", x.kept(1), 0);
        x.map(0, region(0, 0), 1, 0, 7);
        due(32, "narrow", x.kept(1), 8);
        x.map(0, region(2, 1), 1, 10, 7);
        due(32, "and wide", x.kept(1), 24);
        x.flush(1, region(10, 1), 7, true);
        x.work(9);
        due(32, "wide without a deed", x.kept(1), 24);
        due(32, "tidy", x.tidy(1), 0);
        due(32, "narrow again", x.kept(1), 8);
        due(32, "tidy is undone, lines too", x.undo(), 4);
        due(32, "wide again", x.kept(1), 24);
        x.tidy(1);
        x.map(0, region(1, 0), 1, 1, 7);
        due(32, "narrow still", x.kept(1), 8);
        due(32, "two joined", x.tidy(1), 1);
        due(32, "so it is wide", x.kept(1), 16);
        x.grant(0, region(9, 0), 2, 9);
        due(32, "a page of a greater one", x.kept(2), 8);
        due(32, "root stays wide", x.kept(0), 32);
        x.grant(0, region(10, 1), 2, 0);
        due(32, "two pages", x.kept(2), 24);
        due(32, "space 3", x.kept(3), NONE);
        due(32, "space -1", x.kept(-1), NONE);
    }

    private static void losses() {
        FrameHeirs x = told("size 8;space r;space a;space b;");
        x.map(0, region(0, 2), 1, 0, 7);
        x.map(1, region(0, 1), 2, 0, 7);
        x.map(2, region(1, 0), 1, 7, 7);
        due(35, "all", x.lost(0, region(0, 3), 0), 7);
        due(35, "spaces", x.lost(0, region(0, 3), 1), 2);
        due(35, "a page of a greater one", x.lost(0, region(1, 0), 0), 3);
        due(35, "another page", x.lost(0, region(3, 0), 0), 1);
        due(35, "its space", x.lost(0, region(3, 0), 1), 1);
        due(35, "its own space, too", x.lost(1, region(0, 2), 1), 2);
        due(35, "nothing", x.lost(0, region(4, 2), 0), 0);
        due(35, "no spaces", x.lost(0, region(4, 2), 1), 0);
        due(35, "two deeds, each once", x.lost(1, region(0, 3), 0), 3);
        due(35, "none there", x.lost(1, region(4, 1), 0), -2);
        due(35, "what 2", x.lost(1, region(4, 1), 2), NONE);
        due(35, "what -1", x.lost(1, region(0, 1), -1), NONE);
        due(35, "no such region", x.lost(1, region(1, 1), 0), NONE);
        due(35, "region -1", x.lost(1, -1, 0), NONE);
        due(35, "space 3", x.lost(3, 0, 0), NONE);
        due(36, "with what a cut makes", x.steps(0, region(1, 0)), 3);
        due(36, "whole", x.steps(0, region(0, 3)), 3);
        due(36, "half", x.steps(0, region(2, 1)), 1);
        due(36, "no job", x.steps(0, region(4, 2)), 0);
        due(36, "nothing is cut", x.count(7), 0);
        due(36, "no jobs", x.count(4), 0);
        due(36, "none there", x.steps(1, region(4, 1)), -2);
        due(36, "no such region", x.steps(1, region(8, 0)), NONE);
        due(36, "space -1", x.steps(-1, 0), NONE);
        x.flush(2, region(0, 0), 7, true);
        due(36, "busy beneath", x.steps(0, region(0, 3)), -3);
    }

    private static void tries() {
        FrameHeirs x = told("size 8;space r;space a;space b;pager a r 0;pager b a 0;quota b 1;");
        x.map(0, region(0, 2), 1, 0, 7);
        x.flush(0, region(0, 1), 7, false);
        x.flush(0, region(2, 0), 3, false);
        due(37, "work left", x.tried(2), 2);
        due(37, "pages then", x.tried(3), 10);
        due(37, "deeds then, what is busy apart", x.tried(4), 7);
        x.touch(2, 5, 1);
        due(37, "pages when settled", x.tried(0), 14);
        due(37, "none refused", x.tried(1), 0);
        due(37, "what 5", x.tried(5), NONE);
        due(37, "what -1", x.tried(-1), NONE);
        due(37, "nothing changed", x.count(3), 12);
        due(37, "jobs", x.count(4), 2);
        due(37, "waits", x.waits(2, 0), 1);
        x.work(9);
        due(37, "no work", x.tried(2), 0);
        due(37, "tidied", x.tried(4), 3);
    }

    private static void churns() {
        FrameHeirs x = told("size 8;seed 7;space r;");
        due(38, "root hits always", x.churn(12345, 20), 20);
        due(38, "n 0", x.churn(1, 0), NONE);
        due(38, "n 21", x.churn(1, 21), NONE);
        due(38, "seed -2", x.churn(-2, 1), NONE);
        due(38, "greatest seed", x.churn(2147483647, 3), 3);
        due(38, "no spaces", new FrameHeirs().churn(1, 1), -2);
        due(38, "no spaces, n 0", new FrameHeirs().churn(1, 0), NONE);
        FrameHeirs y = told("size 8;seed 7;space r;space a;pager a r 0;");
        for (int seed = 0; seed < 40; seed++) {
            due(38, "seed " + seed, y.churn(seed, 20), hits(seed, 20));
        }
        due(38, "the text's seed", y.churn(-1, 20), hits(7, 20));
        due(38, "nothing changed", y.count(2), 1);
        due(38, "nothing to undo", y.count(12), 0);
    }

    /** Of root and one space that it serves at the same places: each page is there from its first touch on. */
    private static int hits(int seed, int n) {
        long last = seed;
        int[] had = new int[8];
        int hits = 0;
        for (int i = 0; i < n; i++) {
            int[] drawn = new int[3];
            for (int j = 0; j < 3; j++) {
                last = (last * 1103515245L + 12345L) & 0x7fffffffL;
                drawn[j] = (int) (last >> 16);
            }
            int right = 1 << drawn[2] % 3;
            int place = drawn[1] % 8;
            if (drawn[0] % 2 == 0 || (had[place] & right) != 0) {
                hits++;
            } else {
                had[place] = right | 1;
            }
        }
        return hits;
    }

    private static void undoes() {
        FrameHeirs x = told("size 8;space r;space a;pager a r 0;map r 0 a 0 0 7;");
        due(39, "none", x.undo(), NONE);
        x.map(0, region(0, 3), 1, 3, 7);
        x.work(100);
        x.touch(1, 9, 1);
        due(39, "NONE is none", x.count(12), 0);
        x.map(1, 0, 0, 0, 7);
        due(39, "-2 is one", x.count(12), 1);
        x.grant(0, region(4, 1), 1, 4);
        x.touch(1, 4, 1);
        x.tick();
        x.flush(1, region(4, 0), 1, false);
        x.tidy(1);
        x.run(1);
        x.touch(1, 7, 1);
        x.serve(0);
        x.settle();
        due(39, "ten", x.count(12), 10);
        due(39, "settle", x.undo(), 9);
        due(39, "serve", x.undo(), 8);
        due(39, "it waits again", x.waits(1, 0), 1);
        due(39, "touch", x.undo(), 7);
        due(39, "it waits no more", x.waits(1, 0), 0);
        due(39, "faults", x.count(8), 0);
        due(39, "run", x.undo(), 6);
        due(39, "not done", x.answer(0), -9);
        due(39, "its map", deed(x, 1, 0, 0), -2);
        due(39, "tidy", x.undo(), 5);
        due(39, "order", deed(x, 1, 4, 2), 0);
        due(39, "flush", x.undo(), 4);
        due(39, "order again", deed(x, 1, 4, 2), 1);
        due(39, "splits", x.count(7), 2);
        due(39, "tick", x.undo(), 3);
        due(39, "age", x.age(1, 4), Float.floatToIntBits(1f));
        due(39, "touch", x.undo(), 2);
        due(39, "grant", x.undo(), 1);
        due(39, "splits then", x.count(7), 0);
        due(39, "the first", x.undo(), 0);
        due(39, "no more", x.undo(), NONE);
        for (int i = 0; i < 25; i++) {
            x.touch(0, 0, 1);
        }
        due(39, "20 at most", x.count(12), 20);
        x.touch(0, 8, 1);
        for (int i = 19; i >= 0; i--) {
            due(39, "back", x.undo(), i);
        }
        due(39, "five are left", x.age(0, 0), Float.floatToIntBits(5f));
        due(39, "none more", x.undo(), NONE);
        for (int i = 0; i < 3; i++) {
            x.touch(0, 0, 1);
            x.touch(0, 0, 1);
            x.undo();
        }
        due(39, "to and fro", x.age(0, 0), Float.floatToIntBits(8f));
        due(39, "three", x.count(12), 3);
    }

    private static void counts() {
        FrameHeirs x = told("size 32;space r;space a;space b;space c;pager c b 0;map r 0 a 0 0 7;serve a;");
        due(40, "spaces", x.count(0), 4);
        due(40, "size", x.count(1), 32);
        due(40, "deeds", x.count(2), 4);
        due(40, "pages", x.count(3), 32);
        due(40, "jobs", x.count(4), 0);
        due(40, "steps", x.count(5), 2);
        due(40, "done", x.count(6), 0);
        due(40, "above", x.count(11), 0);
        x.run(1);
        x.map(1, region(0, 0), 2, 0, 7);
        due(40, "done then", x.count(6), 1);
        due(40, "above then", x.count(11), 2);
        x.flush(0, region(0, 0), 7, false);
        due(40, "splits", x.count(7), 3);
        due(40, "jobs then", x.count(4), 1);
        x.work(1);
        due(40, "work", x.count(10), 1);
        x.touch(3, 9, 1);
        due(40, "faults", x.count(8), 1);
        x.serve(2);
        due(40, "refused", x.count(9), 1);
        due(40, "undo", x.count(12), 6);
        due(40, "what 13", x.count(13), NONE);
        due(40, "what -1", x.count(-1), NONE);
        tell(x, "space r;");
        for (int what = 4; what <= 12; what++) {
            due(40, "none since the text: " + what, x.count(what), 0);
        }
    }

    /** As many deeds as there are places, and joined again. */
    private static void fullSpaces() {
        FrameHeirs x = told("size 32;space r;space a;space b;space c;space d;space e;");
        for (int space = 1; space < 6; space++) {
            for (int place = 0; place < 32; place += 8) {
                x.map(0, region(place, 3), space, place, 3);
            }
        }
        for (int place = 0; place < 32; place++) {
            due(8, "flush of page " + place, x.flush(0, region(place, 0), 4, false), 5);
            due(9, "work", x.work(99), 5);
        }
        due(40, "deeds", x.count(2), 192);
        due(40, "pages", x.count(3), 192);
        due(40, "splits: 28 of each space", x.count(7), 168);
        due(37, "tidied", x.tried(4), 24);
        due(14, "givers first", x.tidy(5), 0);
        for (int space = 0; space < 6; space++) {
            due(14, "tidy", x.tidy(space), 28);
        }
        due(40, "deeds then", x.count(2), 24);
        due(19, "heirs in their order", x.heir(0, 24, 4), 5 * 32 + 24);
    }

    /** One page handed on through all places of all spaces but the root's. */
    private static void longChain() {
        FrameHeirs x = told("size 32;space r;space a;space b;space c;space d;space e;");
        int space = 0;
        int place = 7;
        for (int i = 0; i < 160; i++) {
            int to = 1 + i % 5;
            due(6, "on", x.map(space, region(place, 0), to, i / 5, 7), 1);
            space = to;
            place = i / 5;
        }
        due(17, "above", deed(x, 5, 31, 4), 160);
        due(40, "above at most", x.count(11), 160);
        due(18, "the highest", x.above(5, 31, 160), 7);
        due(18, "none above it", x.above(5, 31, 161), -2);
        due(17, "beneath", deed(x, 0, 0, 6), 160);
        due(22, "reach", x.reach(1, 1), 31);
        due(24, "one gate", x.gates(0, 5), 1);
        due(35, "lost", x.lost(0, region(7, 0), 0), 160);
        due(36, "steps", x.steps(0, region(7, 0)), 160);
        due(8, "flush", x.flush(0, region(7, 0), 6, false), 160);
        due(37, "pages then", x.tried(3), 192);
        due(9, "work", x.work(99), 99);
        due(9, "work again", x.work(99), 61);
        due(8, "flush away", x.flush(1, region(0, 0), 1, true), 160);
        due(37, "all gone then", x.tried(3), 32);
        x.work(99);
        due(9, "the deepest first", x.count(3), 93);
        due(39, "undo", x.undo(), 19);
        due(39, "all back", x.count(3), 192);
    }

    /** Nothing but what the document names may ever reach a caller. */
    private static void wildCalls() {
        Random chance = new Random(5);
        int threw = 0;
        for (int run = 0; run < 200; run++) {
            FrameHeirs x = run % 4 == 0 ? new FrameHeirs() : told("size 32;space r;space a;space b;pager a r 1;pager b a 3;");
            for (int call = 0; call < 400; call++) {
                try {
                    wildCall(x, chance);
                } catch (RuntimeException e) {
                    System.out.println("a wild call threw " + e);
                    threw++;
                }
            }
        }
        due(17, "wild calls that threw", threw, 0);
    }

    private static int wild(Random chance) {
        int[] edges = {-1, 0, 1, 2, 3, 4, 7, 8, 12, 28, 31, 32, 64, 127, 128, Integer.MAX_VALUE, Integer.MIN_VALUE};
        return chance.nextInt(3) == 0 ? chance.nextInt() : edges[chance.nextInt(edges.length)];
    }

    private static void wildCall(FrameHeirs x, Random chance) {
        int a = wild(chance);
        int b = wild(chance);
        int c = wild(chance);
        int d = wild(chance);
        int e = wild(chance);
        switch (chance.nextInt(39)) {
            case 0: x.feed(a, b, c, d, e); break;
            case 1: x.text(a); break;
            case 2: x.fault(a); break;
            case 3: x.named(a); break;
            case 4: x.map(a, b, c, d, e); break;
            case 5: x.grant(a, b, c, d); break;
            case 6: x.flush(a, b, c, chance.nextBoolean()); break;
            case 7: x.work(a); break;
            case 8: x.touch(a, b, c); break;
            case 9: x.serve(a); break;
            case 10: x.settle(); break;
            case 11: x.tick(); break;
            case 12: x.tidy(a); break;
            case 13: x.run(a); break;
            case 14: x.answer(a); break;
            case 15: deed(x, a, b, c); break;
            case 16: x.above(a, b, c); break;
            case 17: x.heir(a, b, c); break;
            case 18: x.holds(a, b); break;
            case 19: x.aliases(a, b); break;
            case 20: x.reach(a, b); break;
            case 21: x.shared(a, b); break;
            case 22: x.gates(a, b); break;
            case 23: x.gap(a, b); break;
            case 24: x.free(a); break;
            case 25: x.coldest(a); break;
            case 26: x.age(a, b); break;
            case 27: x.warmth(a); break;
            case 28: x.ratio(a, b); break;
            case 29: x.cool(a); break;
            case 30: x.kept(a); break;
            case 31: x.job(a, b); break;
            case 32: x.waits(a, b); break;
            case 33: x.lost(a, b, c); break;
            case 34: x.steps(a, b); break;
            case 35: x.tried(a); break;
            case 36: x.churn(a, b); break;
            case 37: x.undo(); break;
            default: x.count(a); break;
        }
    }
}
