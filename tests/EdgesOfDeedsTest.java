import java.util.function.Supplier;

/**
 * The edges of promises 6 to 9 and of what the document says of deeds, regions and jobs. The remark ahead of each test
 * says to which sentence of the document it belongs.
 */
final class EdgesOfDeedsTest extends Probe {
    private static final String EIGHT = "size 8;space r;space a;space b;space c;";
    private static final String SIXTEEN = "size 16;space r;space a;space b;space c;";

    private EdgesOfDeedsTest() {
    }

    public static void main(String[] args) {
        runAll(EdgesOfDeedsTest.class);
    }

    // Terms 2: "A DEED: of a SPACE, PAGES in a row: 1, 2, 4 or 8 by its ORDER 0 .. 3, its first PLACE and its first FRAME
    // multiples of that;"
    static void deedsOfEachOrder() {
        for (int order = 0; order <= 3; order++) {
            int pages = 1 << order;
            FrameHeirs x = told(SIXTEEN);
            due(1, x.map(0, region(8, order), 1, 0, 7));
            for (int place = 0; place < 16; place++) {
                due(place < pages ? 8 + place : -2, deed(x, 1, place, 0));
                due(place < pages ? order : -2, deed(x, 1, place, 2));
                due(place < pages ? 0 : -2, deed(x, 1, place, 3));
            }
            for (int place = 0; place < 16; place++) {
                if (place % pages != 0) {
                    due(NONE, x.map(0, region(place, order), 2, 0, 7));
                    due(NONE, x.map(0, region(0, order), 2, place, 7));
                }
            }
            due(1, x.map(0, region(16 - pages, order), 2, 16 - pages, 7));
            due(16 - pages, deed(x, 2, 15, 3));
            due(15, deed(x, 2, 15, 0));
        }
    }

    // Terms 2: "RIGHTS: bits 1, 2, 4, one at least;"
    static void rightsOfDeeds() {
        FrameHeirs x = told(EIGHT);
        for (int rights = 1; rights <= 7; rights++) {
            due(1, x.map(0, region(rights, 0), 1, rights, rights));
            due(rights, deed(x, 1, rights, 1));
            int lacks = 7 - rights;
            if (lacks != 0) {
                due(-5, x.map(1, region(rights, 0), 2, rights, lacks));
            }
        }
        due(-2, deed(x, 1, 0, 1));
    }

    // Terms 2: "its GIVER: the DEED it came from, which has all its FRAMES; its HEIRS: DEEDS that came from it, in their order;
    // AGE: a float."
    static void giverAndHeirs() {
        FrameHeirs x = told(EIGHT);
        x.map(0, region(0, 2), 1, 4, 7);
        x.map(1, region(5, 0), 2, 0, 7);
        x.map(1, region(4, 1), 2, 2, 7);
        x.map(1, region(4, 2), 3, 0, 7);
        heirs(x, 0, 0, 36);
        heirs(x, 1, 4, 64, 66, 96);
        heirs(x, 2, 0);
        due(32 + 5, x.above(2, 0, 1));
        due(32 + 5, x.above(2, 3, 1));
        due(32 + 7, x.above(3, 3, 1));
        x.touch(1, 7, 1);
        x.tick();
        due(bits(0.5f), x.age(1, 4));
        due(0, x.age(3, 0));
    }

    // Terms 2: "No two DEEDS of one SPACE have one PLACE."
    static void onePlaceHasOneDeed() {
        FrameHeirs x = told(SIXTEEN);
        due(1, x.map(0, region(0, 2), 1, 4, 7));
        for (int order = 0; order <= 3; order++) {
            int pages = 1 << order;
            for (int at = 0; at < 16; at += pages) {
                boolean meets = at < 8 && at + pages > 4;
                due(meets ? -4 : 1, x.map(0, region(8, order), 1, at, 7));
                x.undo();
                due(meets ? -4 : 1, x.grant(0, region(8, order), 1, at));
                x.undo();
            }
        }
    }

    // Terms 2: "At first ROOT has one of ORDER 3 for each eight FRAMES, at the same PLACES, RIGHTS 7, AGE 0, without a GIVER;
    // others have none."
    static void rootHasAllAtFirst() {
        for (int size = 8; size <= 32; size *= 2) {
            FrameHeirs x = told("size " + size + ";space r;space a;");
            due(size / 8, x.count(2));
            due(size, x.count(3));
            for (int place = 0; place < size; place++) {
                due(place, deed(x, 0, place, 0));
                due(7, deed(x, 0, place, 1));
                due(3, deed(x, 0, place, 2));
                due(place / 8 * 8, deed(x, 0, place, 3));
                due(0, deed(x, 0, place, 4));
                due(0, x.age(0, place));
                due(-2, deed(x, 1, place, 0));
            }
        }
        due(0, told("size 8;").count(2));
    }

    // Terms 2: "BENEATH a DEED: its HEIRS, theirs, and so on; ABOVE: the other way."
    static void beneathAndAbove() {
        FrameHeirs x = told(EIGHT);
        x.map(0, region(3, 0), 1, 0, 7);
        x.map(1, region(0, 0), 2, 1, 7);
        x.map(2, region(1, 0), 3, 2, 7);
        x.map(1, region(0, 0), 3, 4, 7);
        int[][] deeds = {{0, 3, 0, 4}, {1, 0, 1, 3}, {2, 1, 2, 1}, {3, 2, 3, 0}, {3, 4, 2, 0}};
        for (int[] one : deeds) {
            due(one[2], deed(x, one[0], one[1], 4));
            due(one[3], deed(x, one[0], one[1], 6));
        }
        due(3, x.above(3, 2, 3));
        due(-2, x.above(3, 2, 4));
        due(32, x.above(3, 4, 1));
    }

    // Terms 2: "SPLIT of a DEED of ORDER above 0: its lower and its upper half are two DEEDS in its place (among its GIVER's
    // HEIRS, too, the lower one first), RIGHTS, AGE as it;"
    static void twoHalvesInTheDeedsPlace() {
        FrameHeirs x = told(EIGHT);
        x.map(0, region(7, 0), 2, 0, 7);
        x.map(0, region(0, 2), 1, 4, 3);
        x.map(0, region(6, 0), 2, 1, 7);
        x.touch(1, 4, 1);
        heirs(x, 0, 0, 64, 36, 65);
        due(0, x.flush(1, region(6, 0), 7, false));
        due(2, x.count(7));
        row(x, 1, 0, -2, -2, -2, -2, 0, 1, 2, 3);
        row(x, 1, 1, -2, -2, -2, -2, 3, 3, 3, 3);
        row(x, 1, 2, -2, -2, -2, -2, 1, 1, 0, 0);
        row(x, 1, 3, -2, -2, -2, -2, 4, 4, 6, 7);
        for (int place = 4; place < 8; place++) {
            due(bits(1f), x.age(1, place));
        }
        heirs(x, 0, 0, 64, 36, 38, 39, 65);
        due(3, deed(x, 0, 0, 2));
        due(0, x.flush(1, region(6, 0), 7, false));
        due(2, x.count(7));
    }

    // Terms 2: "ahead of that each HEIR of the same ORDER is SPLIT likewise (its first one first);"
    static void heirsOfTheSameOrderAreSplit() {
        FrameHeirs x = told(EIGHT);
        x.map(0, region(0, 3), 1, 0, 7);
        x.map(1, region(0, 3), 2, 0, 7);
        x.map(0, region(4, 2), 3, 0, 7);
        x.map(2, region(1, 0), 3, 7, 7);
        due(3, x.flush(0, region(0, 2), 1, false));
        due(3, x.count(7));
        row(x, 0, 2, 2, 2, 2, 2, 2, 2, 2, 2);
        row(x, 0, 3, 0, 0, 0, 0, 4, 4, 4, 4);
        row(x, 1, 3, 0, 0, 0, 0, 4, 4, 4, 4);
        row(x, 2, 3, 0, 0, 0, 0, 4, 4, 4, 4);
        row(x, 3, 2, 2, 2, 2, 2, -2, -2, -2, 0);
        heirs(x, 0, 0, 32);
        heirs(x, 0, 4, 36, 96);
        heirs(x, 1, 0, 64);
        heirs(x, 1, 4, 68);
        heirs(x, 2, 0, 103);
        heirs(x, 2, 4);
    }

    // Terms 2: "then HEIRS go to the half that has their FRAMES, in their order."
    static void heirsGoToTheirHalf() {
        FrameHeirs x = told(EIGHT);
        x.map(0, region(7, 0), 3, 0, 7);
        x.map(0, region(0, 0), 1, 0, 7);
        x.map(0, region(4, 0), 1, 1, 7);
        x.map(0, region(1, 0), 1, 2, 7);
        x.map(0, region(5, 0), 1, 3, 7);
        x.map(0, region(0, 3), 2, 0, 7);
        x.map(0, region(3, 0), 3, 1, 7);
        heirs(x, 0, 0, 96, 32, 33, 34, 35, 64, 97);
        x.flush(0, region(0, 2), 4, false);
        due(2, x.count(7));
        heirs(x, 0, 0, 32, 34, 64, 97);
        heirs(x, 0, 4, 96, 33, 35, 68);
        due(4, x.above(1, 1, 1));
        due(3, x.above(3, 1, 1));
    }

    // Terms 2: "A REGION: an ORDER and a PLACE that is a multiple of its PAGES, all of them PLACES; in a call told as one
    // number, 4 times PLACE and ORDER."
    static void regions() {
        for (int size = 8; size <= 32; size *= 2) {
            FrameHeirs x = told("size " + size + ";space r;space a;");
            for (int number = -9; number <= 4 * size + 9; number++) {
                int place = Math.floorDiv(number, 4);
                int pages = 1 << Math.floorMod(number, 4);
                boolean is = place >= 0 && place + pages <= size && place % pages == 0;
                due(is ? 0 : NONE, x.lost(0, number, 0));
                due(is ? -2 : NONE, x.lost(1, number, 0));
            }
            for (int number : new int[] {LEAST, LEAST + 3, MOST, MOST - 3, 1 << 30, 1 << 31 | 4}) {
                due(NONE, x.lost(0, number, 0));
            }
        }
        FrameHeirs x = told(EIGHT);
        for (int number : new int[] {-1, -4, region(8, 0), region(7, 1), region(4, 3), region(8, 3), LEAST, MOST, MOST - 3}) {
            due(NONE, x.map(0, number, 1, 0, 7));
            due(NONE, x.grant(0, number, 1, 0));
            due(NONE, x.flush(0, number, 7, false));
            due(NONE, x.steps(0, number));
        }
        for (int at : new int[] {-1, -2, 1, 3, 7, 8, 16, LEAST, MOST, MOST - 1}) {
            due(NONE, x.map(0, region(0, 1), 1, at, 7));
            due(NONE, x.grant(0, region(0, 1), 1, at));
        }
        due(1, x.map(0, region(7, 0), 1, 7, 7));
        due(1, x.grant(0, region(6, 1), 2, 6));
    }

    // Terms 2: "CUT of a REGION: if a DEED of a greater ORDER is there, it is SPLIT, then that half, till one has just the
    // REGION; else nothing."
    static void cutsAsFarAsNeedBe() {
        FrameHeirs x = told(EIGHT);
        due(0, x.flush(0, region(5, 0), 7, false));
        due(3, x.count(7));
        row(x, 0, 2, 2, 2, 2, 2, 0, 0, 1, 1);
        row(x, 0, 3, 0, 0, 0, 0, 4, 5, 6, 6);
        for (int region : new int[] {region(5, 0), region(0, 2), region(6, 1), region(4, 1), region(4, 2), region(0, 3)}) {
            due(0, x.flush(0, region, 7, false));
            due(3, x.count(7));
        }
        row(x, 0, 2, 2, 2, 2, 2, 0, 0, 1, 1);
        due(0, x.flush(0, region(0, 1), 7, false));
        due(4, x.count(7));
        row(x, 0, 2, 1, 1, 1, 1, 0, 0, 1, 1);
        FrameHeirs y = told(EIGHT);
        due(0, y.flush(0, region(0, 0), 7, false));
        row(y, 0, 2, 0, 0, 1, 1, 2, 2, 2, 2);
        FrameHeirs z = told(EIGHT);
        due(1, z.grant(0, region(7, 0), 1, 0));
        row(z, 0, 2, 2, 2, 2, 2, 1, 1, 0, -2);
    }

    // Terms 2: "A DEED GOES: all BENEATH it GO, too; one without a GIVER never does."
    static void whatGoesTakesAllBeneath() {
        FrameHeirs x = told(EIGHT + "pager a r 0;quota a 1;");
        x.map(0, region(0, 0), 1, 0, 7);
        x.map(1, region(0, 0), 2, 0, 7);
        x.map(2, region(0, 0), 3, 0, 7);
        x.map(1, region(0, 0), 3, 1, 7);
        x.map(0, region(0, 0), 3, 2, 7);
        x.touch(1, 5, 1);
        due(5, x.serve(0));
        row(x, 1, 0, -2, -2, -2, -2, -2, 5);
        due(-2, deed(x, 2, 0, 0));
        row(x, 3, 0, -2, -2, 0);
        due(10, x.count(3));
        heirs(x, 0, 0, 98, 37);
        due(1, x.count(11));
        due(1, x.reach(0, 1));
        due(0, x.reach(0, 2));
        due(0, x.reach(1, 3));
        due(1, x.reach(0, 3));
        due(0, x.gates(0, 2));
        due(1, x.gates(0, 3));
        due(0, x.gates(1, 3));
        due(2, x.lost(0, region(0, 3), 0));
        due(2, x.lost(0, region(0, 3), 1));
        due(9, x.holds(0, 1));
        due(0, x.aliases(1, 0));
        FrameHeirs y = told(EIGHT + "pager a r 0;quota a 1;");
        y.grant(0, region(0, 0), 1, 0);
        y.touch(1, 5, 1);
        due(-5, y.serve(0));
        due(0, deed(y, 1, 0, 0));
        due(-4, y.flush(1, region(0, 0), 7, true));
    }

    // Terms 2: "its HEIRS: DEEDS that came from it, in their order;"
    static void heirsThatAreLeftKeepTheirOrder() {
        for (int gone = 0; gone < 3; gone++) {
            FrameHeirs x = told(EIGHT);
            for (int space = 1; space <= 3; space++) {
                x.map(0, region(0, 0), space, 0, 7);
            }
            x.flush(1 + gone, region(0, 0), 7, true);
            x.work(1);
            int[] left = {gone == 0 ? 64 : 32, gone == 2 ? 64 : 96};
            heirs(x, 0, 0, left);
            x.map(0, region(0, 0), 1 + gone, 5, 7);
            heirs(x, 0, 0, left[0], left[1], 32 * (1 + gone) + 5);
            x.flush(0, region(0, 0), 7, false);
            due(3, x.work(9));
            heirs(x, 0, 0);
        }
        FrameHeirs split = told(EIGHT);
        split.map(0, region(0, 1), 1, 0, 7);
        split.map(0, region(5, 0), 2, 0, 7);
        split.flush(1, region(0, 0), 1, false);
        heirs(split, 0, 0, 32, 33, 64);
        split.flush(2, region(0, 0), 7, true);
        split.work(1);
        heirs(split, 0, 0, 32, 33);
        split.map(0, region(6, 0), 3, 0, 7);
        heirs(split, 0, 0, 32, 33, 96);
        split.flush(1, region(1, 0), 7, true);
        split.work(1);
        heirs(split, 0, 0, 32, 96);
    }

    // Terms 2: "No two DEEDS of one SPACE have one PLACE."
    static void deedsComeAndGoAsOftenAsOneLikes() {
        FrameHeirs x = told(EIGHT);
        for (int place = 0; place < 8; place++) {
            x.map(0, region(place, 0), 1, place, 7);
        }
        for (int i = 0; i < 60; i++) {
            due(8, x.map(1, region(0, 3), 2, 0, 7));
            due(17, x.count(2));
            due(8, x.flush(1, region(0, 3), 7, false));
            due(8, x.work(99));
            due(9, x.count(2));
        }
    }

    // Terms 2: "map: from a REGION of one SPACE to one of another one, RIGHTS: for each DEED that is in the REGION, by PLACES"
    // Terms 2: "an HEIR more of it, the last, AGE 0, as far from the REGION's first PLACE, ORDER and FRAMES likewise, RIGHTS
    // that are in both;"
    static void mapOfSeveralDeeds() {
        FrameHeirs x = severalDeeds();
        due(3, x.map(1, region(0, 3), 2, 8, 7));
        row(x, 2, 0, -2, -2, -2, -2, -2, -2, -2, -2, 0, -2, 2, 3, -2, -2, 5, -2);
        row(x, 2, 2, -2, -2, -2, -2, -2, -2, -2, -2, 0, -2, 1, 1, -2, -2, 0, -2);
        row(x, 2, 1, -2, -2, -2, -2, -2, -2, -2, -2, 7, -2, 3, 3, -2, -2, 4, -2);
        due(32 + 3, x.above(2, 11, 1));
        due(16, x.kept(2));
        due(0, x.age(2, 8));
        due(0, x.age(2, 10));
        due(1, x.map(1, region(2, 1), 3, 4, 5));
        due(1, deed(x, 3, 4, 1));
        heirs(x, 1, 2, 74, 100);
    }

    private static FrameHeirs severalDeeds() {
        FrameHeirs x = told(SIXTEEN);
        x.map(0, region(0, 0), 1, 0, 7);
        x.map(0, region(2, 1), 1, 2, 3);
        x.map(0, region(5, 0), 1, 6, 4);
        x.touch(1, 0, 1);
        x.touch(1, 2, 1);
        return x;
    }

    // Terms 2: "(if one of a greater ORDER is there: for that part of it, without CUT)"
    static void mapOfAPartCutsNothing() {
        FrameHeirs x = told(EIGHT);
        due(1, x.map(0, region(5, 0), 1, 3, 7));
        due(1, x.map(0, region(2, 1), 1, 6, 7));
        due(1, x.map(1, region(7, 0), 2, 0, 7));
        due(0, x.count(7));
        row(x, 0, 2, 3, 3, 3, 3, 3, 3, 3, 3);
        row(x, 1, 0, -2, -2, -2, 5, -2, -2, 2, 3);
        row(x, 1, 2, -2, -2, -2, 0, -2, -2, 1, 1);
        row(x, 2, 0, 3, -2);
        heirs(x, 0, 0, 35, 38);
    }

    // Terms 2: "where none are in both, nothing."
    static void mapWhereNoRightsAreInBoth() {
        FrameHeirs x = severalDeeds();
        due(2, x.map(1, region(0, 3), 2, 8, 3));
        row(x, 2, 0, -2, -2, -2, -2, -2, -2, -2, -2, 0, -2, 2, 3, -2, -2, -2, -2);
        heirs(x, 1, 6);
    }

    // Terms 2: "grant: CUT, then each DEED in the REGION goes over to the other SPACE, as far from its REGION's first PLACE;
    // RIGHTS, GIVER, HEIRS, AGE stay."
    static void grantGoesOverAsItIs() {
        FrameHeirs x = told(SIXTEEN);
        x.map(0, region(0, 3), 1, 0, 3);
        x.touch(1, 0, 1);
        x.map(1, region(2, 0), 2, 5, 7);
        due(1, x.grant(1, region(2, 1), 3, 10));
        due(2, x.count(7));
        row(x, 1, 2, 1, 1, -2, -2, 2, 2, 2, 2);
        due(2, deed(x, 3, 10, 0));
        due(3, deed(x, 3, 11, 0));
        due(1, deed(x, 3, 11, 2));
        due(3, deed(x, 3, 11, 1));
        due(bits(1f), x.age(3, 11));
        due(3, x.above(3, 11, 1));
        heirs(x, 3, 10, 69);
        heirs(x, 0, 0, 32, 106, 36);
        FrameHeirs y = severalDeeds();
        due(3, y.grant(1, region(0, 3), 2, 8));
        row(y, 2, 0, -2, -2, -2, -2, -2, -2, -2, -2, 0, -2, 2, 3, -2, -2, 5, -2);
        row(y, 1, 0, -2, -2, -2, -2, -2, -2, -2, -2);
        due(16, y.kept(2));
        due(0, y.count(7));
        heirs(y, 0, 0, 72, 74, 78);
    }

    /** Beneath root's page 0: a@0 with b@1 (with c@1) and c@0, then a@1, then b@0 with a@2. */
    private static FrameHeirs tree() {
        FrameHeirs x = told(EIGHT);
        x.map(0, region(0, 0), 1, 0, 7);
        x.map(0, region(0, 0), 1, 1, 7);
        x.map(0, region(0, 0), 2, 0, 7);
        x.map(1, region(0, 0), 2, 1, 7);
        x.map(1, region(0, 0), 3, 0, 7);
        x.map(2, region(1, 0), 3, 1, 7);
        x.map(2, region(0, 0), 1, 2, 7);
        return x;
    }

    /** Does a job's steps one by one: each lets the one go that is told as 32 times its space and its place. */
    private static void goneInTurn(FrameHeirs x, int... deeds) {
        for (int i = 0; i < deeds.length; i++) {
            due(deeds.length - i, x.job(0, 2));
            due(0, deed(x, deeds[i] / 32, deeds[i] % 32, 0) < 0 ? 1 : 0);
            due(1, x.work(1));
            due(-2, deed(x, deeds[i] / 32, deeds[i] % 32, 0));
        }
        due(0, x.count(4));
        due(0, x.work(1));
    }

    // Terms 2: "its DEEDS: all BENEATH its TOPS, and TOPS too, if itself is asked; in the order: of a TOP each HEIR by their
    // order with all BENEATH it (likewise), ahead of it itself;"
    static void theOrderOfAJob() {
        FrameHeirs x = tree();
        due(7, x.flush(0, region(0, 0), 7, false));
        goneInTurn(x, 97, 65, 96, 32, 33, 34, 64);
        due(0, deed(x, 0, 0, 0));
        FrameHeirs y = tree();
        due(4, y.flush(1, region(0, 0), 7, true));
        goneInTurn(y, 97, 65, 96, 32);
        due(0, deed(y, 1, 1, 0));
        FrameHeirs z = tree();
        due(3, z.flush(1, region(0, 0), 7, false));
        goneInTurn(z, 97, 65, 96);
        due(0, deed(z, 1, 0, 0));
    }

    // Terms 2: "flush: CUT; the DEEDS of the REGION are TOPS of a JOB, by PLACES;"
    static void topsByPlaces() {
        FrameHeirs x = told(EIGHT);
        due(0, x.flush(0, region(0, 0), 7, false));
        x.map(0, region(1, 0), 1, 0, 7);
        x.map(0, region(0, 0), 1, 1, 7);
        due(2, x.flush(0, region(0, 1), 7, false));
        row(x, 0, 7, 1, 1, 0, 0, 0);
        goneInTurn(x, 33, 32);
        FrameHeirs y = told(EIGHT);
        y.map(0, region(0, 0), 1, 7, 7);
        y.map(0, region(0, 0), 1, 0, 7);
        y.map(1, region(7, 0), 2, 0, 7);
        y.map(1, region(0, 0), 2, 1, 7);
        due(4, y.flush(1, region(0, 3), 7, true));
        goneInTurn(y, 65, 32, 64, 39);
    }

    // Terms 2: "each once, where it comes first (a TOP may be BENEATH another one)."
    static void topsBeneathTops() {
        for (int i = 0; i < 2; i++) {
            FrameHeirs x = told(EIGHT);
            x.map(0, region(0, 0), 1, 0, 7);
            x.map(1, region(0, 0), 2, 0, 7);
            x.map(2, region(0, 0), 1, 1, 7);
            due(2 + i, x.flush(1, region(0, 1), 7, i == 1));
            if (i == 0) {
                goneInTurn(x, 33, 64);
            } else {
                goneInTurn(x, 33, 64, 32);
            }
            FrameHeirs y = told(EIGHT);
            y.map(0, region(0, 0), 1, 1, 7);
            y.map(1, region(1, 0), 2, 0, 7);
            y.map(2, region(0, 0), 1, 0, 7);
            y.map(1, region(0, 0), 3, 0, 7);
            due(3 + i, y.flush(1, region(0, 1), 7, i == 1));
            if (i == 0) {
                goneInTurn(y, 96, 32, 64);
            } else {
                goneInTurn(y, 96, 32, 64, 33);
            }
        }
    }

    // Terms 2: "WORK, a STEP of it: of the first JOB the first one of its DEEDS not done yet loses RIGHTS (those told); if it
    // has none then, it GOES;"
    static void aStepOfWork() {
        FrameHeirs x = told(EIGHT);
        x.map(0, region(0, 0), 1, 0, 7);
        x.map(1, region(0, 0), 2, 0, 6);
        x.map(0, region(1, 0), 1, 1, 5);
        due(2, x.flush(0, region(0, 0), 6, false));
        due(1, x.flush(0, region(1, 0), 2, false));
        due(1, x.work(1));
        due(-2, deed(x, 2, 0, 1));
        due(7, deed(x, 1, 0, 1));
        due(1, x.work(1));
        due(1, deed(x, 1, 0, 1));
        due(5, deed(x, 1, 1, 1));
        due(1, x.count(4));
        due(1, x.work(1));
        due(5, deed(x, 1, 1, 1));
        due(7, deed(x, 0, 0, 1));
    }

    // Terms 2: "if none is left not done, the JOB is over at once (the next one is the first)."
    static void aJobIsOverAtOnce() {
        FrameHeirs x = told(EIGHT);
        x.map(0, region(0, 0), 1, 0, 7);
        x.map(0, region(4, 0), 1, 4, 7);
        due(1, x.flush(0, region(0, 0), 1, false));
        due(1, x.flush(0, region(4, 0), 2, false));
        due(0, x.job(0, 1));
        due(4, x.job(1, 1));
        due(1, deed(x, 0, 0, 7));
        due(1, x.work(1));
        due(1, x.count(4));
        due(4, x.job(0, 1));
        due(NONE, x.job(1, 1));
        due(0, deed(x, 0, 0, 7));
        due(1, deed(x, 0, 4, 7));
        due(1, x.work(2));
        due(0, x.count(4));
        due(NONE, x.job(0, 0));
        due(0, deed(x, 0, 4, 7));
    }

    // Terms 2: "A JOB without DEEDS is none."
    static void aJobWithoutDeedsIsNone() {
        FrameHeirs x = told(EIGHT);
        for (int i = 0; i < 8; i++) {
            due(0, x.flush(0, region(i, 0), 7, false));
            due(0, x.count(4));
            due(0, deed(x, 0, i, 7));
        }
        due(NONE, x.job(0, 0));
        due(0, x.work(9));
    }

    // Terms 2: "BUSY: a TOP of a JOB, and all BENEATH one."
    static void whoIsBusy() {
        FrameHeirs x = tree();
        due(4, x.flush(1, region(0, 0), 1, true));
        row(x, 0, 7, 0, 0, 0, 0, 0, 0, 0, 0);
        row(x, 1, 7, 1, 0, 0, -2);
        row(x, 2, 7, 0, 1, -2);
        row(x, 3, 7, 1, 1, -2);
        x.work(3);
        row(x, 1, 7, 1, 0, 0, -2);
        row(x, 2, 7, 0, 1, -2);
        row(x, 3, 7, 1, 1, -2);
        x.work(1);
        row(x, 1, 7, 0, 0, 0, -2);
        row(x, 2, 7, 0, 0, -2);
        row(x, 3, 7, 0, 0, -2);
        FrameHeirs y = told(EIGHT);
        y.flush(0, region(0, 0), 7, false);
        y.map(0, region(1, 0), 1, 0, 7);
        due(1, y.flush(0, region(0, 1), 7, false));
        row(y, 0, 7, 1, 1, 0);
        FrameHeirs z = told(EIGHT);
        for (int place = 0; place < 3; place++) {
            z.map(0, region(place, 0), 1, place, 7);
        }
        due(3, z.flush(1, region(0, 2), 7, true));
        z.work(1);
        row(z, 1, 7, -2, 1, 1, -2);
        z.map(0, region(4, 0), 1, 4, 7);
        z.map(0, region(5, 0), 2, 5, 7);
        row(z, 1, 7, -2, 1, 1, -2, 0);
        due(0, deed(z, 2, 5, 7));
        due(0, deed(z, 0, 4, 7));
        z.work(1);
        row(z, 1, 7, -2, -2, 1, -2, 0);
        due(1, z.job(0, 2));
        z.map(0, region(6, 0), 1, 6, 7);
        due(1, z.work(9));
        row(z, 1, 7, -2, -2, -2, -2, 0, -2, 0);
    }

    // Promise 6: "map from a REGION to that of the same ORDER at a PLACE of another SPACE: how many DEEDS come to be;"
    static void mapTellsHowManyComeToBe() {
        FrameHeirs x = told(SIXTEEN);
        for (int place = 0; place < 8; place++) {
            due(1, x.map(0, region(place, 0), 1, 8 + place, 7));
        }
        due(8, x.map(1, region(8, 3), 2, 0, 7));
        due(4, x.map(1, region(12, 2), 2, 8, 1));
        due(2, x.map(1, region(14, 1), 2, 14, 1));
        due(1, x.map(0, region(8, 3), 3, 8, 1));
        due(2 + 8 + 8 + 4 + 2 + 1, x.count(2));
        due(1, x.map(3, region(8, 3), 1, 0, 1));
    }

    // Promise 6: "-2: no DEED is in the REGION;"
    static void mapOfNoDeed() {
        Supplier<FrameHeirs> before = run(EIGHT, x -> x.map(0, region(4, 0), 1, 4, 7));
        refused(-2, before, x -> x.map(1, region(3, 0), 2, 0, 7));
        refused(-2, before, x -> x.map(1, region(5, 0), 2, 0, 7));
        refused(-2, before, x -> x.map(1, region(0, 2), 2, 0, 7));
        refused(-2, before, x -> x.map(1, region(6, 1), 2, 0, 7));
        refused(-2, before, x -> x.map(2, region(0, 3), 1, 0, 7));
        due(1, before.get().map(1, region(0, 3), 2, 0, 7));
        due(1, before.get().map(1, region(4, 1), 2, 0, 7));
    }

    // Promise 6: "-3: one there is BUSY;"
    static void mapOfABusyDeed() {
        Supplier<FrameHeirs> before = run(EIGHT, x -> {
            x.map(0, region(0, 1), 1, 0, 7);
            x.map(1, region(0, 0), 2, 7, 7);
            x.flush(1, region(0, 1), 2, false);
        });
        refused(-3, before, x -> x.map(1, region(0, 1), 3, 0, 7));
        refused(-3, before, x -> x.map(1, region(0, 0), 3, 0, 7));
        refused(-3, before, x -> x.map(1, region(0, 3), 3, 0, 7));
        refused(-3, before, x -> x.map(2, region(7, 0), 3, 0, 7));
        refused(-3, before, x -> x.map(2, region(4, 2), 3, 0, 7));
        due(1, before.get().map(0, region(0, 1), 3, 0, 7));
        FrameHeirs over = before.get();
        over.work(1);
        due(1, over.map(1, region(0, 1), 3, 0, 7));
    }

    // Promise 6: "-4: the other one has a DEED in its REGION;"
    static void mapToWhereADeedIs() {
        Supplier<FrameHeirs> before = run(EIGHT, x -> {
            x.map(0, region(0, 0), 1, 3, 7);
            x.map(0, region(0, 2), 1, 4, 7);
        });
        refused(-4, before, x -> x.map(0, region(5, 0), 1, 3, 7));
        refused(-4, before, x -> x.map(0, region(4, 1), 1, 2, 7));
        refused(-4, before, x -> x.map(0, region(4, 2), 1, 0, 7));
        refused(-4, before, x -> x.map(0, region(0, 3), 1, 0, 7));
        refused(-4, before, x -> x.map(0, region(7, 0), 1, 7, 7));
        refused(-4, before, x -> x.map(0, region(7, 0), 1, 4, 7));
        refused(-4, before, x -> x.map(1, region(3, 0), 0, 0, 7));
        due(1, before.get().map(0, region(7, 0), 1, 2, 7));
        due(1, before.get().map(0, region(4, 1), 1, 0, 7));
    }

    // Promise 6: "-5: no DEED would have RIGHTS;"
    static void mapWithoutRights() {
        Supplier<FrameHeirs> before = run(EIGHT, x -> {
            x.map(0, region(0, 0), 1, 0, 1);
            x.map(0, region(1, 0), 1, 1, 2);
        });
        refused(-5, before, x -> x.map(1, region(0, 1), 2, 0, 4));
        refused(-5, before, x -> x.map(1, region(0, 0), 2, 0, 6));
        refused(-5, before, x -> x.map(1, region(1, 0), 2, 0, 5));
        due(1, before.get().map(1, region(0, 1), 2, 0, 6));
        due(2, before.get().map(1, region(0, 1), 2, 0, 3));
    }

    // Promise 6: "-6: the other one would have more than its quota."
    static void mapBeyondTheQuota() {
        Supplier<FrameHeirs> before = run("size 16;space r;space a;space b;space c;quota b 3;quota r 1;", x -> {
            x.map(0, region(0, 0), 1, 0, 1);
            x.map(0, region(1, 0), 1, 1, 2);
            x.map(0, region(4, 1), 2, 4, 7);
        });
        refused(-6, before, x -> x.map(0, region(8, 1), 2, 8, 7));
        refused(-6, before, x -> x.map(0, region(8, 3), 2, 8, 7));
        refused(-6, before, x -> x.map(1, region(0, 1), 2, 8, 3));
        due(1, before.get().map(0, region(8, 0), 2, 8, 7));
        due(1, before.get().map(1, region(0, 1), 2, 8, 1));
        refused(-6, then(before, x -> x.map(0, region(8, 0), 2, 8, 7)), x -> x.map(0, region(9, 0), 2, 9, 7));
        FrameHeirs root = before.get();
        root.grant(0, region(8, 3), 1, 8);
        due(1, root.map(1, region(8, 3), 0, 8, 7));
    }

    // Promise 6: "NONE: no such SPACES (they are one), REGIONS, RIGHTS 1 .. 7."
    static void mapOfNoSuchOnes() {
        Supplier<FrameHeirs> before = run(EIGHT, x -> x.map(0, region(0, 0), 1, 0, 7));
        for (int space : new int[] {-1, 4, 5, 6, LEAST, MOST}) {
            refused(NONE, before, x -> x.map(space, region(0, 0), 1, 1, 7));
            refused(NONE, before, x -> x.map(0, region(0, 0), space, 1, 7));
        }
        refused(NONE, before, x -> x.map(0, region(0, 0), 0, 1, 7));
        refused(NONE, before, x -> x.map(1, region(0, 0), 1, 1, 7));
        for (int region : new int[] {-1, -4, region(8, 0), region(1, 1), region(2, 2), region(4, 3), LEAST, MOST}) {
            refused(NONE, before, x -> x.map(0, region, 1, 1, 7));
        }
        for (int at : new int[] {-1, 8, 9, LEAST, MOST}) {
            refused(NONE, before, x -> x.map(0, region(0, 0), 1, at, 7));
        }
        refused(NONE, before, x -> x.map(0, region(0, 1), 1, 3, 7));
        for (int rights : new int[] {0, 8, 9, 15, -1, LEAST, MOST}) {
            refused(NONE, before, x -> x.map(0, region(0, 0), 1, 1, rights));
        }
        due(NONE, new FrameHeirs().map(0, 0, 1, 0, 7));
        due(NONE, told("space r;").map(0, 0, 1, 0, 7));
    }

    // Promise 7: "grant likewise: how many DEEDS went over;"
    static void grantTellsHowManyWentOver() {
        FrameHeirs x = told(SIXTEEN);
        for (int place = 0; place < 7; place++) {
            x.map(0, region(place, 0), 1, 8 + place, 7);
        }
        due(7, x.grant(1, region(8, 3), 2, 0));
        due(3, x.grant(2, region(4, 2), 3, 12));
        due(1, x.grant(0, region(0, 3), 1, 0));
        due(1, x.grant(1, region(0, 0), 0, 0));
        due(1, x.grant(0, region(8, 3), 1, 8));
        due(0, deed(x, 1, 8, 4));
    }

    // Promise 7: "-2: no DEED is in the REGION;"
    static void grantOfNoDeed() {
        Supplier<FrameHeirs> before = run(EIGHT, x -> x.map(0, region(4, 0), 1, 4, 7));
        refused(-2, before, x -> x.grant(1, region(3, 0), 2, 0));
        refused(-2, before, x -> x.grant(1, region(5, 0), 2, 0));
        refused(-2, before, x -> x.grant(1, region(0, 2), 2, 0));
        refused(-2, before, x -> x.grant(2, region(0, 3), 1, 0));
        due(1, before.get().grant(1, region(0, 3), 2, 0));
    }

    // Promise 7: "-3: one there is BUSY or has a BUSY one BENEATH;"
    static void grantOfABusyDeed() {
        Supplier<FrameHeirs> before = busyBetween();
        refused(-3, before, x -> x.grant(0, region(0, 1), 3, 0));
        refused(-3, before, x -> x.grant(0, region(0, 3), 3, 0));
        refused(-3, before, x -> x.grant(1, region(0, 1), 3, 0));
        refused(-3, before, x -> x.grant(1, region(0, 3), 3, 0));
        refused(-3, before, x -> x.grant(2, region(7, 0), 3, 0));
        due(1, before.get().grant(0, region(4, 2), 3, 0));
        FrameHeirs over = before.get();
        over.work(1);
        due(1, over.grant(0, region(0, 1), 3, 0));
    }

    /** a@0..1 from root's lower half, which is cut off, is the top of a job; b@7 is beneath it. */
    private static Supplier<FrameHeirs> busyBetween() {
        return run(EIGHT, x -> {
            x.flush(0, region(0, 2), 1, false);
            x.map(0, region(0, 1), 1, 0, 7);
            x.map(1, region(0, 0), 2, 7, 7);
            x.flush(1, region(0, 1), 2, false);
        });
    }

    // Promise 7: "-4: the other one has a DEED in its REGION;"
    static void grantToWhereADeedIs() {
        Supplier<FrameHeirs> before = run(EIGHT, x -> {
            x.map(0, region(0, 0), 1, 3, 7);
            x.map(0, region(0, 2), 1, 4, 7);
        });
        refused(-4, before, x -> x.grant(0, region(5, 0), 1, 3));
        refused(-4, before, x -> x.grant(0, region(4, 2), 1, 0));
        refused(-4, before, x -> x.grant(0, region(0, 3), 1, 0));
        refused(-4, before, x -> x.grant(0, region(7, 0), 1, 7));
        refused(-4, before, x -> x.grant(1, region(3, 0), 0, 7));
        due(1, before.get().grant(0, region(7, 0), 1, 2));
    }

    // Promise 7: "-5: the other one would have more than its quota."
    static void grantBeyondTheQuota() {
        Supplier<FrameHeirs> before = run("size 16;space r;space a;space b;space c;quota b 3;quota r 1;", x -> {
            x.map(0, region(4, 1), 2, 4, 7);
            x.map(0, region(0, 0), 1, 1, 7);
        });
        refused(-5, before, x -> x.grant(0, region(8, 1), 2, 8));
        refused(-5, before, x -> x.grant(0, region(8, 3), 2, 8));
        due(1, before.get().grant(0, region(8, 0), 2, 8));
        due(1, before.get().grant(1, region(0, 3), 2, 8));
        refused(-5, then(before, x -> x.grant(0, region(8, 0), 2, 8)), x -> x.grant(0, region(9, 0), 2, 9));
        FrameHeirs root = before.get();
        due(1, root.grant(0, region(8, 3), 1, 8));
        due(1, root.grant(1, region(8, 3), 0, 8));
    }

    // Promise 7: "NONE: no such ones."
    static void grantOfNoSuchOnes() {
        Supplier<FrameHeirs> before = run(EIGHT, x -> x.map(0, region(0, 0), 1, 0, 7));
        for (int space : new int[] {-1, 4, 6, LEAST, MOST}) {
            refused(NONE, before, x -> x.grant(space, region(0, 0), 1, 1));
            refused(NONE, before, x -> x.grant(0, region(0, 0), space, 1));
        }
        refused(NONE, before, x -> x.grant(0, region(0, 0), 0, 1));
        for (int region : new int[] {-1, -4, region(8, 0), region(1, 1), region(4, 3), LEAST, MOST}) {
            refused(NONE, before, x -> x.grant(0, region, 1, 1));
        }
        for (int at : new int[] {-1, 8, LEAST, MOST}) {
            refused(NONE, before, x -> x.grant(0, region(0, 0), 1, at));
        }
        refused(NONE, before, x -> x.grant(0, region(0, 1), 1, 3));
        due(NONE, new FrameHeirs().grant(0, 0, 1, 0));
    }

    // Promise 8: "flush: how many STEPS its JOB has (0: there is none, the CUT is done all the same);"
    static void flushTellsItsSteps() {
        FrameHeirs x = tree();
        due(0, x.flush(0, region(4, 0), 7, false));
        due(3, x.count(7));
        due(0, x.count(4));
        row(x, 0, 2, 2, 2, 2, 2, 0, 0, 1, 1);
        due(0, x.flush(1, region(1, 0), 7, false));
        due(1, x.flush(1, region(1, 0), 1, true));
        due(2, x.flush(2, region(0, 0), 1, true));
        due(3, x.flush(1, region(0, 0), 1, false));
        due(3, x.count(4));
        due(0, x.flush(0, region(7, 0), 1, false));
        due(4, x.count(7));
        due(3, x.count(4));
    }

    // Promise 8: "-2: no DEED is in the REGION;"
    static void flushOfNoDeed() {
        Supplier<FrameHeirs> before = run(EIGHT, x -> x.map(0, region(4, 0), 1, 4, 7));
        refused(-2, before, x -> x.flush(1, region(3, 0), 7, false));
        refused(-2, before, x -> x.flush(1, region(5, 0), 7, true));
        refused(-2, before, x -> x.flush(1, region(0, 2), 7, false));
        refused(-2, before, x -> x.flush(2, region(0, 3), 7, false));
        due(1, before.get().flush(1, region(0, 3), 7, true));
    }

    // Promise 8: "-3: one there is BUSY or has a BUSY one BENEATH;"
    static void flushOfABusyDeed() {
        Supplier<FrameHeirs> before = busyBetween();
        refused(-3, before, x -> x.flush(0, region(0, 1), 7, false));
        refused(-3, before, x -> x.flush(0, region(0, 3), 7, false));
        refused(-3, before, x -> x.flush(1, region(0, 1), 7, false));
        refused(-3, before, x -> x.flush(1, region(0, 3), 7, true));
        refused(-3, before, x -> x.flush(2, region(7, 0), 7, false));
        due(0, before.get().flush(0, region(4, 2), 7, false));
        FrameHeirs over = before.get();
        over.work(1);
        due(2, over.flush(0, region(0, 1), 7, false));
    }

    // Promise 8: "-4: itself is asked, and one there has no GIVER;"
    static void flushItselfWithoutGiver() {
        Supplier<FrameHeirs> before = run(EIGHT, x -> {
            x.grant(0, region(4, 0), 1, 4);
            x.map(0, region(5, 0), 1, 5, 7);
        });
        refused(-4, before, x -> x.flush(0, region(0, 2), 7, true));
        refused(-4, before, x -> x.flush(0, region(0, 0), 7, true));
        refused(-4, before, x -> x.flush(1, region(4, 0), 7, true));
        refused(-4, before, x -> x.flush(1, region(4, 1), 7, true));
        refused(-4, before, x -> x.flush(1, region(0, 3), 7, true));
        due(1, before.get().flush(1, region(5, 0), 7, true));
        due(0, before.get().flush(1, region(4, 1), 7, false));
    }

    // Promise 8: "-5: six JOBS are there."
    static void flushWithSixJobs() {
        refused(-5, sixJobs(), x -> x.flush(1, region(6, 0), 2, true));
        refused(-5, sixJobs(), x -> x.flush(1, region(6, 0), 2, false));
        refused(-5, sixJobs(), x -> x.flush(0, region(8, 3), 2, false));
        FrameHeirs over = sixJobs().get();
        over.work(1);
        due(1, over.flush(1, region(6, 0), 2, true));
        due(-5, over.flush(1, region(7, 0), 2, true));
    }

    private static Supplier<FrameHeirs> sixJobs() {
        return run(SIXTEEN, x -> {
            x.map(0, region(0, 3), 1, 0, 7);
            for (int place = 0; place < 6; place++) {
                due(1, x.flush(1, region(place, 0), 2, true));
            }
            due(6, x.count(4));
        });
    }

    // Promise 8: "NONE: no such ones."
    static void flushOfNoSuchOnes() {
        Supplier<FrameHeirs> before = run(EIGHT, x -> x.map(0, region(0, 0), 1, 0, 7));
        for (int space : new int[] {-1, 4, 6, LEAST, MOST}) {
            refused(NONE, before, x -> x.flush(space, region(0, 0), 7, false));
        }
        for (int region : new int[] {-1, -4, region(8, 0), region(1, 1), region(4, 3), LEAST, MOST}) {
            refused(NONE, before, x -> x.flush(0, region, 7, false));
        }
        for (int rights : new int[] {0, 8, -1, LEAST, MOST}) {
            refused(NONE, before, x -> x.flush(0, region(0, 0), rights, false));
        }
        due(NONE, new FrameHeirs().flush(0, 0, 7, false));
    }

    // Promise 9: "n 0 .. 99 STEPS of WORK (no more than there are): how many;"
    static void workFromNoneTo99() {
        FrameHeirs x = told("size 32;space r;space a;space b;space c;space d;");
        for (int place = 0; place < 8; place++) {
            for (int i = 0; i < 16; i++) {
                x.map(0, region(place, 0), 1 + i / 4, 4 * place + i % 4, 7);
            }
        }
        due(128, x.flush(0, region(0, 3), 1, false));
        due(0, x.work(0));
        due(128, x.job(0, 2));
        due(1, x.work(1));
        due(99, x.work(99));
        due(28, x.job(0, 2));
        due(28, x.work(99));
        due(0, x.work(99));
        due(0, x.work(0));
        due(128, x.count(10));
        due(0, new FrameHeirs().work(99));
    }

    // Promise 9: "NONE: no such n."
    static void workOfNoSuchNumber() {
        Supplier<FrameHeirs> before = () -> {
            FrameHeirs x = tree();
            x.flush(0, region(0, 0), 1, false);
            return x;
        };
        for (int n : new int[] {-1, 100, 101, LEAST, MOST}) {
            refused(NONE, before, x -> x.work(n));
        }
    }
}
