import java.util.function.Supplier;

/**
 * The edges of promises 10 to 16 and of what the document says of touching, serving, ticking and tidying. The remark
 * ahead of each test says to which sentence of the document it belongs.
 */
final class EdgesOfPagersTest extends Probe {
    private static final String EIGHT = "size 8;space r;space a;space b;space c;";

    private EdgesOfPagersTest() {
    }

    public static void main(String[] args) {
        runAll(EdgesOfPagersTest.class);
    }

    // Terms 3: "touch of a PLACE for a right (1, 2 or 4): if a DEED of the SPACE is there that has it: a HIT: AGE is 1 more."
    static void hits() {
        FrameHeirs x = told(EIGHT + "pager a r 0;");
        x.map(0, region(4, 2), 1, 0, 5);
        x.map(0, region(4, 0), 1, 4, 2);
        due(4, x.touch(1, 0, 1));
        due(7, x.touch(1, 3, 4));
        due(4, x.touch(1, 4, 2));
        for (int place = 0; place < 4; place++) {
            due(bits(2f), x.age(1, place));
        }
        due(bits(1f), x.age(1, 4));
        due(0, x.age(0, 4));
        for (int right = 1; right <= 4; right *= 2) {
            due(0, x.touch(0, 0, right));
            due(7, x.touch(0, 7, right));
        }
        due(bits(6f), x.age(0, 0));
        due(0, x.count(8));
    }

    // Terms 3: "Else it FAULTS: it WAITS for its PAGER, behind those who WAIT for it already."
    static void faultsWaitInTheirOrder() {
        FrameHeirs x = told(EIGHT + "space d;pager a r 0;pager b r 0;pager c a 0;pager d r 0;");
        x.map(0, region(0, 0), 1, 0, 5);
        due(-2, x.touch(4, 7, 4));
        due(-2, x.touch(3, 1, 1));
        due(-2, x.touch(1, 0, 2));
        due(-2, x.touch(2, 5, 1));
        int[][] waits = {{0, -2, -2, -2}, {1, 0, 2, 1}, {1, 5, 1, 2}, {1, 1, 1, 0}, {1, 7, 4, 0}};
        for (int space = 0; space < 5; space++) {
            for (int what = 0; what < 4; what++) {
                due(waits[space][what], x.waits(space, what));
            }
        }
        due(0, x.age(1, 0));
        due(4, x.count(8));
    }

    // Terms 3: "serve, of a PAGER: of the first SPACE S that WAITS for it, for a right R at P:"
    static void theFirstOneIsServed() {
        FrameHeirs x = told(EIGHT + "space d;pager a r 0;pager b r 0;pager c r 0;pager d b 0;");
        x.touch(4, 6, 1);
        x.touch(3, 1, 1);
        x.touch(1, 2, 2);
        x.touch(2, 3, 4);
        due(1, x.serve(0));
        due(1, deed(x, 3, 1, 0));
        due(0, x.waits(3, 0));
        due(0, x.waits(1, 3));
        due(1, x.waits(2, 3));
        due(2, x.serve(0));
        x.touch(3, 4, 1);
        due(3, x.serve(0));
        due(4, x.serve(0));
        due(-2, x.serve(0));
        due(1, x.waits(4, 0));
    }

    // Terms 3: "by S's WAY the PAGER's PLACE Q: 0: P; 1: P and half of size, modulo size; 2: size less 1 less P;"
    static void placesByWay() {
        for (int size = 8; size <= 32; size *= 2) {
            FrameHeirs x = told("size " + size + ";space r;space a;space b;space c;pager a r 0;pager b r 1;pager c r 2;");
            for (int place = 0; place < size; place++) {
                int[] due = {place, (place + size / 2) % size, size - 1 - place};
                for (int space = 1; space <= 3; space++) {
                    due(-2, x.touch(space, place, 1));
                    due(due[space - 1], x.serve(0));
                }
            }
        }
    }

    // Terms 3: "3: the first PLACE at which the PAGER has R and whose FRAME S has nowhere (P, if there is none)."
    static void theFirstPlaceOfAFrameThatItHasNot() {
        FrameHeirs x = told("size 8;space r;space a;pager a r 3;");
        for (int place = 7; place >= 0; place--) {
            due(-2, x.touch(1, place, 1));
            due(7 - place, x.serve(0));
        }
        due(-2, x.touch(1, 0, 4));
        due(0, x.serve(0));
        due(2, x.aliases(1, 0));
        due(0, x.aliases(1, 7));
        due(-2, x.touch(1, 1, 2));
        due(7, x.serve(0));
        FrameHeirs y = told(EIGHT + "pager b a 3;");
        y.map(0, region(0, 0), 1, 4, 1);
        y.map(0, region(0, 0), 1, 6, 2);
        y.map(0, region(1, 0), 1, 7, 2);
        y.touch(2, 0, 2);
        due(0, y.serve(1));
        due(32 + 6, y.above(2, 0, 1));
        y.touch(2, 3, 2);
        due(1, y.serve(1));
        y.touch(2, 6, 2);
        due(0, y.serve(1));
        y.touch(2, 5, 2);
        due(-5, y.serve(1));
    }

    // Terms 3: "(1) If the PAGER hasn't R at Q: if it WAITS itself: -4;"
    static void thePagerLacksItAndWaits() {
        Supplier<FrameHeirs> before = run(EIGHT + "pager a r 0;pager b a 0;", x -> {
            x.map(0, region(3, 0), 1, 3, 1);
            x.touch(1, 5, 1);
            x.touch(2, 3, 2);
        });
        refused(-4, before, x -> x.serve(1));
        FrameHeirs has = run(EIGHT + "pager a r 0;pager b a 0;", x -> {
            x.map(0, region(3, 0), 1, 3, 1);
            x.touch(1, 5, 1);
            x.touch(2, 3, 1);
        }).get();
        due(3, has.serve(1));
        FrameHeirs round = told(EIGHT + "pager a b 0;pager b a 0;");
        round.touch(1, 0, 1);
        due(-6, round.serve(2));
        due(-4, round.serve(1));
        due(-4, round.serve(2));
    }

    // Terms 3: "if it has no PAGER: REFUSED;"
    static void thePagerLacksItAndHasNoPager() {
        FrameHeirs x = told(EIGHT + "pager b a 0;");
        x.map(0, region(3, 0), 1, 3, 1);
        x.touch(2, 4, 1);
        due(-5, x.serve(1));
        due(0, x.waits(2, 0));
        x.touch(2, 3, 2);
        due(-5, x.serve(1));
        due(2, x.count(9));
        due(2, x.count(8));
        FrameHeirs root = told(EIGHT + "pager b r 0;");
        root.grant(0, region(0, 0), 1, 0);
        root.touch(2, 0, 1);
        due(-5, root.serve(0));
    }

    // Terms 3: "else it FAULTS itself with R at Q: -6, S WAITS on."
    static void thePagerFaultsItself() {
        FrameHeirs x = told(EIGHT + "pager a r 0;pager b a 2;pager c r 0;");
        x.map(0, region(6, 0), 1, 6, 1);
        x.touch(3, 0, 1);
        x.touch(2, 1, 2);
        due(-6, x.serve(1));
        due(3, x.count(8));
        due(1, x.waits(1, 0));
        due(6, x.waits(1, 1));
        due(2, x.waits(1, 2));
        due(1, x.waits(1, 3));
        due(1, x.waits(2, 0));
        due(1, x.waits(2, 1));
        due(2, x.waits(2, 2));
        due(1, deed(x, 1, 6, 1));
        due(-4, x.serve(1));
        due(0, x.serve(0));
        due(6, x.serve(0));
        due(3, deed(x, 1, 6, 1));
        due(6, x.serve(1));
        due(6, deed(x, 2, 1, 0));
    }

    // Terms 3: "(2) If the PAGER's DEED at Q is BUSY, or that of S at P, or one BENEATH that: -3, S WAITS on."
    static void noneIsServedWhatIsBusy() {
        String text = EIGHT + "pager b r 1;";
        Supplier<FrameHeirs> pagers = run(text, x -> {
            x.map(0, region(4, 0), 1, 0, 7);
            x.flush(0, region(4, 0), 1, false);
            x.touch(2, 0, 1);
        });
        refused(-3, pagers, x -> x.serve(0));
        Supplier<FrameHeirs> own = run(text, x -> {
            x.map(0, region(0, 0), 2, 0, 3);
            x.flush(2, region(0, 0), 1, true);
            x.touch(2, 0, 4);
        });
        refused(-3, own, x -> x.serve(0));
        Supplier<FrameHeirs> beneath = run(text, x -> {
            x.map(0, region(0, 0), 2, 0, 3);
            x.map(2, region(0, 0), 1, 3, 3);
            x.map(1, region(3, 0), 3, 3, 3);
            x.flush(3, region(3, 0), 1, true);
            x.touch(2, 0, 4);
        });
        refused(-3, beneath, x -> x.serve(0));
        for (Supplier<FrameHeirs> before : java.util.List.of(pagers, own, beneath)) {
            FrameHeirs x = before.get();
            due(1, x.waits(2, 0));
            due(1, x.work(1));
            due(4, x.serve(0));
        }
        FrameHeirs neighbour = run(text, x -> {
            x.map(0, region(5, 0), 1, 0, 7);
            x.flush(0, region(5, 0), 1, false);
            x.touch(2, 0, 1);
        }).get();
        due(4, neighbour.serve(0));
    }

    // Terms 3: "(3) If S has a DEED at P: REFUSED, if it has no GIVER;"
    static void whatHasNoGiverDoesNotMakeRoom() {
        FrameHeirs x = told(EIGHT + "pager b r 1;");
        x.touch(2, 0, 1);
        x.grant(0, region(0, 1), 2, 0);
        due(-5, x.serve(0));
        due(0, deed(x, 2, 0, 0));
        due(1, deed(x, 2, 0, 2));
        due(0, x.waits(2, 0));
        due(1, x.count(9));
    }

    // Terms 3: "CUT of that page, it GOES."
    static void whatIsAtThePageIsCutOutAndGoes() {
        FrameHeirs x = told(EIGHT + "pager b r 0;quota b 4;");
        x.map(0, region(0, 2), 2, 0, 1);
        x.map(2, region(1, 0), 1, 5, 1);
        x.map(2, region(0, 0), 1, 6, 1);
        x.map(2, region(0, 2), 3, 0, 1);
        due(-2, x.touch(2, 1, 2));
        due(1, x.serve(0));
        due(4, x.count(7));
        row(x, 2, 2, 0, 0, 1, 1);
        row(x, 2, 1, 1, 3, 1, 1);
        row(x, 1, 0, -2, -2, -2, -2, -2, -2, 0, -2);
        row(x, 3, 0, 0, -2, 2, 3);
        row(x, 0, 2, 3, 3);
        heirs(x, 0, 0, 64, 66, 65);
        heirs(x, 2, 1);
    }

    // Terms 3: "(4) As long as S has its quota: of its DEEDS that have a GIVER, aren't BUSY, nor have a BUSY one BENEATH, the
    // COLDEST GOES;"
    static void theColdestMakesRoom() {
        FrameHeirs room = told(EIGHT + "pager b r 0;quota b 3;");
        room.map(0, region(0, 1), 2, 0, 7);
        room.touch(2, 5, 1);
        due(5, room.serve(0));
        due(3, room.count(3) - 8);
        room.touch(2, 6, 1);
        due(6, room.serve(0));
        row(room, 2, 0, -2, -2, -2, -2, -2, 5, 6, -2);
        FrameHeirs own = told(EIGHT + "pager b r 0;quota b 2;");
        own.map(0, region(0, 0), 2, 0, 1);
        own.map(0, region(1, 0), 2, 1, 1);
        own.touch(2, 1, 2);
        due(1, own.serve(0));
        row(own, 2, 0, 0, 1);
        Supplier<FrameHeirs> three = run(EIGHT + "space d;pager b r 0;quota b 4;", x -> {
            x.grant(0, region(0, 0), 2, 0);
            x.map(0, region(1, 0), 2, 1, 7);
            x.map(0, region(2, 0), 2, 2, 7);
            x.map(0, region(3, 0), 2, 3, 7);
            x.map(2, region(2, 0), 1, 0, 7);
            x.map(1, region(0, 0), 3, 0, 7);
            x.touch(2, 3, 1);
            x.touch(2, 5, 1);
        });
        FrameHeirs free = three.get();
        due(5, free.serve(0));
        row(free, 2, 0, 0, -2, 2, 3, -2, 5);
        FrameHeirs busy = three.get();
        busy.flush(2, region(1, 0), 1, true);
        due(5, busy.serve(0));
        row(busy, 2, 0, 0, 1, -2, 3, -2, 5);
        due(-2, deed(busy, 3, 0, 0));
        FrameHeirs tied = three.get();
        tied.flush(2, region(1, 0), 1, true);
        tied.flush(3, region(0, 0), 1, true);
        due(5, tied.serve(0));
        row(tied, 2, 0, 0, 1, 2, -2, -2, 5);
    }

    // Terms 3: "REFUSED, if there is none."
    static void noneMayGo() {
        FrameHeirs x = told(EIGHT + "space d;pager b r 0;quota b 3;");
        x.grant(0, region(0, 0), 2, 0);
        x.map(0, region(1, 0), 2, 1, 7);
        x.map(0, region(2, 0), 2, 2, 7);
        x.map(2, region(2, 0), 1, 0, 7);
        x.flush(2, region(1, 0), 2, true);
        x.flush(1, region(0, 0), 2, true);
        x.touch(2, 5, 1);
        due(-5, x.serve(0));
        due(0, x.waits(2, 0));
        due(1, x.count(9));
        row(x, 2, 0, 0, 1, 2, -2, -2, -2);
        x.work(1);
        x.touch(2, 5, 1);
        due(5, x.serve(0));
        row(x, 2, 0, 0, -2, 2, -2, -2, 5);
    }

    // Terms 3: "(5) If the PAGER hasn't R at Q any more: REFUSED."
    // Terms 3: "REFUSED: S WAITS no more: -5 (what went is gone)."
    static void thePagersPageWentToo() {
        FrameHeirs room = told(EIGHT + "pager b a 0;quota b 1;");
        room.map(0, region(0, 0), 2, 3, 7);
        room.map(2, region(3, 0), 1, 5, 7);
        room.touch(2, 5, 1);
        due(-5, room.serve(1));
        due(8, room.count(3));
        due(0, room.waits(2, 0));
        due(1, room.count(9));
        FrameHeirs own = told(EIGHT + "pager b a 0;");
        own.touch(2, 5, 1);
        own.map(0, region(0, 0), 2, 5, 7);
        own.map(2, region(5, 0), 1, 5, 7);
        due(-5, own.serve(1));
        due(8, own.count(3));
        due(0, own.waits(2, 0));
        due(1, own.count(9));
    }

    // Terms 3: "(6) It has an HEIR more, the last: S's page at P, RIGHTS those of R and 1 that it has, AGE 1; S WAITS no more:
    // the FRAME."
    static void anHeirMore() {
        FrameHeirs x = told(EIGHT + "pager b a 0;");
        for (int rights = 1; rights <= 7; rights++) {
            x.map(0, region(rights, 0), 1, 7 - rights, rights);
        }
        for (int rights = 1; rights <= 7; rights++) {
            for (int right = 1; right <= 4; right *= 2) {
                if ((rights & right) != 0) {
                    due(-2, x.touch(2, 7 - rights, right));
                    due(rights, x.serve(1));
                    due(rights & (right | 1), deed(x, 2, 7 - rights, 1));
                    due(bits(1f), x.age(2, 7 - rights));
                    due(0, deed(x, 2, 7 - rights, 2));
                    due(0, x.waits(2, 0));
                    due(39 - rights, x.above(2, 7 - rights, 1));
                    x.undo();
                    x.undo();
                }
            }
        }
        FrameHeirs y = told(EIGHT + "pager b r 0;");
        y.map(0, region(3, 0), 1, 3, 7);
        y.touch(2, 5, 1);
        due(5, y.serve(0));
        y.map(0, region(3, 0), 1, 4, 7);
        heirs(y, 0, 0, 35, 69, 36);
        due(0, y.count(7));
    }

    // Terms 3: "COLDEST: AGE is least, of several the first by PLACES."
    static void theLeastAgeAndTheFirstPlace() {
        FrameHeirs x = told(EIGHT + "pager b r 0;quota b 4;");
        int[] touches = {2, 1, 1, 3};
        for (int i = 3; i >= 0; i--) {
            x.map(0, region(i, 0), 2, 2 * i, 7);
            for (int j = 0; j < touches[i]; j++) {
                x.touch(2, 2 * i, 1);
            }
        }
        int[] order = {2, 4, 0, 6};
        for (int place : order) {
            due(place, x.coldest(2));
            x.touch(2, 1, 1);
            due(1, x.serve(0));
            due(-2, deed(x, 2, place, 0));
            x.undo();
            x.undo();
            for (int j = 0; j < 9; j++) {
                x.touch(2, place, 1);
            }
        }
    }

    // Terms 3: "SETTLE: 12 times: each SPACE by numbers, if one WAITS for it, serves."
    static void twelveRounds() {
        Supplier<FrameHeirs> before = run("size 8;space r;space a;space b;space c;space d;space e;pager a b 2;quota a 1;pager b d 1;"
            + "quota b 2;pager c a 2;quota c 1;pager d r 0;pager e c 2;quota e 2;", x -> {
                x.touch(3, 4, 1);
                x.touch(1, 0, 1);
                x.touch(5, 2, 2);
                x.touch(2, 6, 4);
            });
        FrameHeirs x = before.get();
        due(11, rounds(x, 11));
        due(1, rounds(x, 1));
        due(2, rounds(x, 1));
        due(12, before.get().settle());
        alike(then(before, y -> rounds(y, 12)), then(before, FrameHeirs::settle));
        due(before.get().tried(0), then(before, y -> rounds(y, 12)).get().count(3));
    }

    private static int rounds(FrameHeirs x, int rounds) {
        int served = 0;
        for (int i = 0; i < rounds; i++) {
            for (int space = 0; space < 6; space++) {
                served += x.serve(space) >= 0 ? 1 : 0;
            }
        }
        return served;
    }

    // Terms 3: "TICK: each AGE is as much times the float that is decay by 10."
    static void ticksInFloats() {
        float[] tenths = {0f, 0.1f, 0.2f, 0.3f, 0.4f, 0.5f, 0.6f, 0.7f, 0.8f, 0.9f};
        for (int decay = 1; decay <= 9; decay++) {
            FrameHeirs x = told("decay " + decay + ";size 8;space r;space a;");
            x.map(0, region(0, 1), 1, 0, 7);
            x.touch(0, 0, 1);
            float ofRoot = 1f;
            float ofA = 0f;
            for (int i = 0; i < 40; i++) {
                if (i % 3 == 0) {
                    x.touch(1, 1, 1);
                    ofA += 1f;
                }
                due(2, x.tick());
                ofRoot *= tenths[decay];
                ofA *= tenths[decay];
                due(bits(ofRoot), x.age(0, 7));
                due(bits(ofA), x.age(1, 0));
            }
        }
    }

    // Terms 3: "TIDY of a SPACE: as long as there are two DEEDS of one ORDER below 3,"
    static void tidyOfOrdersBelowThree() {
        FrameHeirs x = told("size 16;space r;space a;");
        due(0, x.tidy(0));
        due(2, x.count(2));
        for (int place = 15; place >= 0; place--) {
            x.map(0, region(place, 0), 1, place, 7);
        }
        due(14, x.tidy(1));
        due(4, x.count(2));
        due(3, deed(x, 1, 0, 2));
        due(3, deed(x, 1, 15, 2));
        due(0, x.tidy(1));
        FrameHeirs y = told("size 8;space r;space a;");
        y.map(0, region(0, 1), 1, 0, 7);
        y.map(0, region(2, 0), 1, 2, 7);
        due(0, y.tidy(1));
        y.map(0, region(4, 2), 1, 4, 7);
        due(0, y.tidy(1));
        y.map(0, region(3, 0), 1, 3, 7);
        due(3, y.tidy(1));
    }

    // Terms 3: "not BUSY,"
    static void tidyOfBusyOnes() {
        for (int page = 0; page < 2; page++) {
            FrameHeirs x = told(EIGHT);
            x.flush(0, region(0, 0), 1, false);
            x.map(0, region(page, 0), 1, 0, 7);
            due(1, x.flush(0, region(page, 0), 1, false));
            due(0, x.tidy(0));
            x.work(1);
            due(3, x.tidy(0));
            FrameHeirs beneath = told(EIGHT);
            beneath.flush(0, region(0, 0), 1, false);
            beneath.map(0, region(page, 0), 1, 0, 7);
            due(1, beneath.flush(1, region(0, 0), 1, true));
            due(3, beneath.tidy(0));
            due(1, deed(beneath, 1, 0, 7));
            due(page, beneath.above(1, 0, 1));
            due(1, beneath.work(9));
            due(6, deed(beneath, 1, 0, 1));
        }
    }

    // Terms 3: "whose PLACES and FRAMES would be a DEED's of the next ORDER, the lower one first,"
    static void tidyOfPlacesAndFramesThatFit() {
        due(1, tidied(0, 0, 1, 1));
        due(1, tidied(6, 2, 7, 3));
        due(0, tidied(1, 2, 2, 3));
        due(0, tidied(3, 2, 4, 3));
        due(0, tidied(0, 1, 1, 2));
        due(0, tidied(0, 3, 1, 4));
        due(0, tidied(0, 1, 1, 0));
        due(0, tidied(0, 0, 1, 0));
        due(0, tidied(0, 0, 1, 2));
        due(0, tidied(0, 0, 1, 5));
        due(0, tidied(0, 0, 2, 1));
        FrameHeirs x = told(EIGHT);
        x.map(0, region(2, 1), 1, 0, 7);
        x.map(0, region(4, 1), 1, 2, 7);
        due(0, x.tidy(1));
        x.map(0, region(4, 1), 1, 4, 7);
        x.map(0, region(6, 1), 1, 6, 7);
        due(1, x.tidy(1));
        FrameHeirs y = told(EIGHT);
        y.map(0, region(4, 2), 1, 0, 7);
        y.map(0, region(0, 2), 1, 4, 7);
        due(0, y.tidy(1));
    }

    /** How many fewer there are when two pages of root's, each at a place, are tidied. */
    private static int tidied(int place, int frame, int otherPlace, int otherFrame) {
        FrameHeirs x = told(EIGHT);
        x.map(0, region(frame, 0), 1, place, 7);
        x.map(0, region(otherFrame, 0), 1, otherPlace, 7);
        return x.tidy(1);
    }

    // Terms 3: "alike in RIGHTS,"
    static void tidyOfUnlikeRights() {
        for (int rights = 1; rights <= 7; rights++) {
            FrameHeirs x = told(EIGHT);
            x.map(0, region(0, 0), 1, 0, 3);
            x.map(0, region(1, 0), 1, 1, rights);
            due(rights == 3 ? 1 : 0, x.tidy(1));
            due(3, deed(x, 1, 0, 1));
            due(rights, deed(x, 1, 1, 1));
        }
    }

    // Terms 3: "with the same GIVER (or none):"
    static void tidyOfOneGiver() {
        FrameHeirs two = told(EIGHT);
        two.map(0, region(0, 0), 1, 0, 7);
        two.map(0, region(1, 0), 2, 0, 7);
        two.map(2, region(0, 0), 1, 1, 7);
        due(0, two.tidy(1));
        FrameHeirs one = told(EIGHT);
        one.grant(0, region(0, 0), 1, 0);
        one.map(0, region(1, 0), 1, 1, 7);
        due(0, one.tidy(1));
        FrameHeirs none = told(EIGHT);
        none.grant(0, region(0, 0), 1, 0);
        none.grant(0, region(1, 0), 1, 1);
        due(1, none.tidy(1));
        due(0, deed(none, 1, 0, 4));
        FrameHeirs halves = told(EIGHT);
        halves.map(0, region(0, 1), 1, 0, 7);
        halves.flush(0, region(0, 0), 2, false);
        halves.work(9);
        halves.flush(0, region(1, 0), 2, false);
        halves.work(9);
        due(0, halves.tidy(1));
        due(3, halves.tidy(0));
        due(1, halves.tidy(1));
    }

    // Terms 3: "of several the least ORDER, then the first PLACE: they are one DEED at the lower one's place among the GIVER's
    // HEIRS,"
    static void tidyKeepsTheLowerOnesPlace() {
        FrameHeirs x = told(EIGHT);
        x.map(0, region(0, 0), 1, 0, 7);
        x.map(0, region(5, 0), 2, 0, 7);
        x.map(0, region(1, 0), 1, 1, 7);
        heirs(x, 0, 0, 32, 64, 33);
        due(1, x.tidy(1));
        heirs(x, 0, 0, 32, 64);
        row(x, 1, 3, 0, 0, -2);
        row(x, 1, 2, 1, 1, -2);
        FrameHeirs y = told(EIGHT);
        for (int place = 3; place >= 0; place--) {
            y.map(0, region(4 + place, 0), 1, place, 7);
            y.map(0, region(place, 0), 2, place, 7);
        }
        heirs(y, 0, 0, 35, 67, 34, 66, 33, 65, 32, 64);
        due(3, y.tidy(1));
        heirs(y, 0, 0, 67, 66, 65, 32, 64);
        row(y, 1, 0, 4, 5, 6, 7, -2);
    }

    // Terms 3: "HEIRS: the lower one's, then the upper one's;"
    static void tidyJoinsHeirs() {
        FrameHeirs x = told(EIGHT);
        x.map(0, region(0, 0), 1, 0, 7);
        x.map(0, region(1, 0), 1, 1, 7);
        x.map(1, region(1, 0), 3, 0, 7);
        x.map(1, region(0, 0), 3, 1, 7);
        x.map(1, region(1, 0), 3, 2, 7);
        x.map(1, region(0, 0), 3, 3, 7);
        due(1, x.tidy(1));
        heirs(x, 1, 0, 97, 99, 96, 98);
        due(33, x.above(3, 0, 1));
        due(32, x.above(3, 1, 1));
        FrameHeirs y = told(EIGHT);
        y.map(0, region(0, 0), 1, 0, 7);
        y.map(0, region(1, 0), 1, 1, 7);
        y.map(1, region(1, 0), 3, 0, 7);
        due(1, y.tidy(1));
        heirs(y, 1, 1, 96);
    }

    // Terms 3: "AGE: half of both in sum."
    static void tidyHalvesTheAges() {
        due(bits(1.5f), tidiedAge(3, 0, 0));
        due(bits(2f), tidiedAge(1, 0, 3));
        due(bits(0.5f), tidiedAge(1, 24, 1));
        due(bits(0.5f) + 2, tidiedAge(3, 24, 1));
        due(1, tidiedAge(1, 148, 0));
        due(0, tidiedAge(1, 149, 0));
        due(2, tidiedAge(3, 149, 0));
    }

    /** The age of two pages that are joined: one was touched ahead of some ticks (each halves), the other one behind them. */
    private static int tidiedAge(int touches, int ticks, int others) {
        FrameHeirs x = told(EIGHT);
        x.map(0, region(0, 0), 1, 0, 7);
        x.map(0, region(1, 0), 1, 1, 7);
        for (int i = 0; i < touches; i++) {
            x.touch(1, 0, 1);
        }
        for (int i = 0; i < ticks; i++) {
            x.tick();
        }
        for (int i = 0; i < others; i++) {
            x.touch(1, 1, 1);
        }
        x.tidy(1);
        return x.age(1, 0);
    }

    // Terms 3: "LINES of a SPACE: eight PLACES each; NARROW at first, WIDE as soon as a DEED of ORDER above 0 comes into it
    // (also by a CUT, a SPLIT on the way to smaller ones),"
    static void linesGrowWide() {
        FrameHeirs x = told("size 32;space r;space a;space b;");
        due(64, x.kept(0));
        due(0, x.kept(1));
        x.map(0, region(7, 0), 1, 7, 7);
        due(8, x.kept(1));
        x.map(0, region(8, 0), 1, 8, 7);
        due(16, x.kept(1));
        x.map(0, region(6, 1), 1, 4, 7);
        due(24, x.kept(1));
        x.map(0, region(6, 1), 1, 14, 7);
        due(32, x.kept(1));
        x.map(0, region(0, 3), 1, 24, 7);
        due(48, x.kept(1));
        x.grant(0, region(17, 0), 2, 31);
        due(8, x.kept(2));
        due(64, x.kept(0));
        x.grant(0, region(18, 1), 2, 16);
        due(24, x.kept(2));
        for (int place = 16; place < 24; place++) {
            x.flush(0, region(place, 0), 1, false);
        }
        due(64, x.kept(0));
        FrameHeirs y = told("size 8;space r;space a;");
        y.map(0, region(0, 0), 1, 0, 7);
        y.map(0, region(1, 0), 1, 1, 7);
        due(8, y.kept(1));
        due(1, y.tidy(1));
        due(16, y.kept(1));
        due(0, y.flush(1, region(0, 0), 1, false));
        row(y, 1, 2, 0, 0, -2);
        due(16, y.kept(1));
    }

    // Terms 3: "NARROW again by a TIDY of the SPACE that leaves none such there."
    static void linesGrowNarrow() {
        FrameHeirs x = told("size 16;space r;space a;space b;");
        x.map(0, region(0, 1), 1, 0, 7);
        x.map(0, region(8, 1), 1, 8, 7);
        x.map(0, region(10, 0), 1, 10, 7);
        due(32, x.kept(1));
        due(1, x.flush(1, region(8, 1), 7, true));
        due(1, x.work(1));
        due(0, x.tidy(0));
        due(0, x.tidy(2));
        due(32, x.kept(1));
        due(0, x.tidy(1));
        due(24, x.kept(1));
        due(1, x.grant(1, region(0, 1), 2, 0));
        due(24, x.kept(1));
        due(16, x.kept(2));
        due(0, x.tidy(1));
        due(8, x.kept(1));
        due(16, x.kept(2));
        for (int place = 0; place < 8; place += 2) {
            x.grant(0, region(place, 0), 1, place);
        }
        due(32, x.kept(0));
        due(0, x.tidy(0));
        due(24, x.kept(0));
    }

    // Terms 3: "KEPT: 8 for each NARROW LINE in which there is a DEED, 16 for each WIDE one (be a DEED in it or none)."
    static void narrowAndWideLines() {
        FrameHeirs x = told("size 32;space r;space a;");
        int kept = 0;
        for (int line = 0; line < 4; line++) {
            x.map(0, region(0, 0), 1, 8 * line + line, 7);
            kept += 8;
            due(kept, x.kept(1));
        }
        for (int line = 0; line < 4; line++) {
            x.map(0, region(0, 1), 1, 8 * line + 6, 7);
            kept += 8;
            due(kept, x.kept(1));
        }
        x.flush(0, region(0, 1), 7, false);
        x.work(99);
        due(32, x.count(3));
        due(64, x.kept(1));
        x.tidy(1);
        due(0, x.kept(1));
    }

    // Promise 10: "touch: the page's FRAME;"
    static void touchTellsTheFrame() {
        FrameHeirs x = told("size 32;space r;space a;");
        for (int place = 0; place < 32; place++) {
            due(place, x.touch(0, place, 4));
        }
        x.map(0, region(24, 3), 1, 0, 2);
        due(24, x.touch(1, 0, 2));
        due(31, x.touch(1, 7, 2));
    }

    // Promise 10: "-2: it FAULTS;"
    static void touchFaults() {
        FrameHeirs x = told(EIGHT + "pager a r 0;pager b r 0;");
        x.map(0, region(0, 0), 2, 0, 5);
        due(-2, x.touch(1, 7, 1));
        due(-2, x.touch(2, 0, 2));
        due(2, x.count(8));
        due(2, x.count(12) - 1);
        x.undo();
        due(0, x.waits(2, 0));
        due(1, x.count(8));
    }

    // Promise 10: "-3: it would, but has no PAGER."
    static void touchWithoutPager() {
        Supplier<FrameHeirs> before = run(EIGHT + "pager b r 0;", x -> {
            x.map(0, region(0, 0), 1, 0, 5);
            x.grant(0, region(7, 0), 2, 7);
        });
        refused(-3, before, x -> x.touch(1, 0, 2));
        refused(-3, before, x -> x.touch(1, 1, 1));
        refused(-3, before, x -> x.touch(0, 7, 1));
        refused(-3, before, x -> x.touch(3, 0, 4));
        due(0, before.get().touch(1, 0, 4));
    }

    // Promise 10: "NONE: no such ones, it WAITS."
    static void touchOfNoSuchOnes() {
        Supplier<FrameHeirs> before = run(EIGHT + "pager a r 0;", x -> {
            x.map(0, region(0, 0), 1, 0, 7);
            x.touch(1, 5, 1);
        });
        for (int space : new int[] {-1, 4, 6, LEAST, MOST}) {
            refused(NONE, before, x -> x.touch(space, 0, 1));
        }
        for (int place : new int[] {-1, 8, 31, LEAST, MOST}) {
            refused(NONE, before, x -> x.touch(0, place, 1));
        }
        for (int right : new int[] {0, 3, 5, 6, 7, 8, -1, LEAST, MOST}) {
            refused(NONE, before, x -> x.touch(0, 0, right));
        }
        refused(NONE, before, x -> x.touch(1, 0, 1));
        refused(NONE, before, x -> x.touch(1, 5, 1));
        FrameHeirs served = before.get();
        due(5, served.serve(0));
        due(0, served.touch(1, 0, 1));
        due(NONE, new FrameHeirs().touch(0, 0, 1));
    }

    // Promise 11: "serve: the FRAME;"
    static void serveTellsTheFrame() {
        FrameHeirs x = told("size 32;space r;space a;pager a r 2;");
        x.touch(1, 0, 1);
        due(31, x.serve(0));
        x.touch(1, 31, 1);
        due(0, x.serve(0));
        due(-2, x.serve(0));
    }

    // Promise 11: "-2: nobody WAITS for it;"
    static void nobodyWaits() {
        Supplier<FrameHeirs> before = run(EIGHT + "pager a r 0;pager b a 0;", x -> x.touch(1, 0, 1));
        refused(-2, before, x -> x.serve(1));
        refused(-2, before, x -> x.serve(2));
        refused(-2, before, x -> x.serve(3));
        refused(-2, then(before, x -> x.serve(0)), x -> x.serve(0));
        due(-2, told(EIGHT).serve(0));
    }

    // Promise 11: "-3, -4, -5, -6 as said."
    static void serveRefuses() {
        FrameHeirs x = told(EIGHT + "pager a r 0;pager b a 0;pager c b 0;");
        x.touch(2, 0, 1);
        due(-6, x.serve(1));
        due(-4, x.serve(1));
        x.map(0, region(0, 0), 3, 5, 7);
        x.flush(0, region(0, 0), 1, false);
        due(-3, x.serve(0));
        x.work(9);
        x.grant(0, region(0, 0), 3, 0);
        due(-5, x.serve(0));
        due(-6, x.serve(1));
        due(-5, x.serve(0));
        due(1, x.waits(2, 0));
    }

    // Promise 11: "NONE: no such SPACE."
    static void serveOfNoSuchSpace() {
        Supplier<FrameHeirs> before = run(EIGHT + "pager a r 0;", x -> x.touch(1, 0, 1));
        for (int space : new int[] {-1, 4, 5, 6, LEAST, MOST}) {
            refused(NONE, before, x -> x.serve(space));
        }
        due(NONE, new FrameHeirs().serve(0));
    }

    // Promise 12: "SETTLE: how many were served (a FRAME)."
    static void settleTellsHowManyWereServed() {
        due(0, new FrameHeirs().settle());
        due(0, told(EIGHT).settle());
        FrameHeirs x = told(EIGHT + "pager a r 0;pager b a 0;pager c b 0;");
        x.touch(3, 1, 1);
        due(3, x.settle());
        due(0, x.settle());
        x.touch(1, 2, 1);
        due(1, x.settle());
        FrameHeirs refused = told(EIGHT + "pager b a 0;pager c a 0;");
        refused.map(0, region(0, 0), 1, 0, 7);
        refused.touch(2, 1, 1);
        refused.touch(3, 0, 1);
        due(1, refused.settle());
        due(1, refused.count(9));
        FrameHeirs round = told(EIGHT + "pager a b 0;pager b a 0;");
        round.touch(1, 0, 1);
        due(0, round.settle());
        due(1, round.waits(1, 0));
        due(1, round.waits(2, 0));
    }

    // Promise 13: "TICK of all DEEDS: how many there are."
    static void tickOfAllDeeds() {
        due(0, new FrameHeirs().tick());
        due(4, told("size 32;space r;").tick());
        FrameHeirs x = told(EIGHT);
        for (int space = 0; space < 4; space++) {
            x.map(0, region(space, 0), 1 + space % 3, space, 7);
        }
        for (int[] deed : new int[][] {{0, 0}, {1, 0}, {2, 1}, {3, 2}, {1, 3}}) {
            x.touch(deed[0], deed[1], 1);
        }
        due(5, x.tick());
        for (int[] deed : new int[][] {{0, 0}, {1, 0}, {2, 1}, {3, 2}, {1, 3}}) {
            due(bits(0.5f), x.age(deed[0], deed[1]));
        }
    }

    // Promise 14: "TIDY: how many DEEDS there are less;"
    static void tidyTellsHowManyLess() {
        FrameHeirs x = told(EIGHT);
        due(0, x.tidy(0));
        due(0, x.tidy(1));
        x.flush(0, region(3, 0), 1, false);
        due(4, x.count(2));
        due(3, x.tidy(0));
        due(1, x.count(2));
        due(0, x.tidy(0));
    }

    // Promise 14: "NONE: no such SPACE."
    static void tidyOfNoSuchSpace() {
        Supplier<FrameHeirs> before = run(EIGHT, x -> x.flush(0, region(3, 0), 1, false));
        for (int space : new int[] {-1, 4, 6, LEAST, MOST}) {
            refused(NONE, before, x -> x.tidy(space));
        }
        due(NONE, new FrameHeirs().tidy(0));
    }

    // Promise 15: "n 0 .. 24 STEPS of the TEXT, from the first not done yet on (no more than there are), each done as by call,"
    static void runFromNoneTo24() {
        StringBuilder text = new StringBuilder("size 32;space r;space a;");
        for (int place = 0; place < 24; place++) {
            text.append("map r ").append(place).append(" a ").append(place).append(" 0 7;");
        }
        FrameHeirs x = told(text.toString());
        due(24, x.count(5));
        due(0, x.run(0));
        due(0, x.count(6));
        due(24, x.run(24));
        due(24, x.count(6));
        due(56, x.count(3));
        due(0, x.run(24));
        due(0, x.run(1));
        FrameHeirs y = told(text.toString());
        due(1, y.run(1));
        due(0, deed(y, 1, 0, 0));
        due(-2, deed(y, 1, 1, 0));
        due(22, y.run(22));
        due(-2, deed(y, 1, 23, 0));
        due(1, y.run(24));
        due(23, deed(y, 1, 23, 0));
        due(0, told(EIGHT).run(24));
        due(0, new FrameHeirs().run(24));
    }

    // Promise 15: "behind each budget STEPS of WORK: how many;"
    static void workBehindEachStep() {
        FrameHeirs x = told("size 8;budget 3;space r;space a;space b;serve a;flush r 0 3 1 0;serve a;touch a 0 3;");
        for (int place = 0; place < 8; place++) {
            x.map(0, region(place, 0), 1, place, 7);
        }
        x.map(0, region(0, 0), 2, 0, 7);
        due(1, x.run(1));
        due(0, x.count(10));
        due(1, x.run(1));
        due(9, x.answer(1));
        due(3, x.count(10));
        due(6, x.job(0, 2));
        due(2, x.run(2));
        due(9, x.count(10));
        due(0, x.count(4));
        FrameHeirs none = told("size 8;budget 0;space r;space a;map r 0 a 0 0 7;flush r 0 0 7 0;serve a;");
        due(3, none.run(3));
        due(0, none.count(10));
        due(1, none.job(0, 2));
    }

    // Promise 15: "NONE: no such n."
    static void runOfNoSuchNumber() {
        Supplier<FrameHeirs> before = run(EIGHT + "map r 0 a 0 0 7;serve a;", x -> x.run(1));
        for (int n : new int[] {-1, 25, 26, LEAST, MOST}) {
            refused(NONE, before, x -> x.run(n));
        }
        due(NONE, new FrameHeirs().run(25));
    }

    // Promise 16: "A STEP's answer when it was done (also NONE);"
    static void answersOfSteps() {
        FrameHeirs x = told("size 8;space r;space a;space b;pager b r 0;map r 0 a 0 0 7;map r 0 a 0 0 7;map r 31 a 0 0 7;touch r 0 3;"
            + "touch b 1 1;serve r;map a 0 a 1 0 1;flush r 0 3 1 1;");
        due(8, x.run(24));
        int[] due = {1, -4, NONE, NONE, -2, 1, NONE, -4};
        for (int step = 0; step < 8; step++) {
            due(due[step], x.answer(step));
        }
        due(1, x.flush(1, region(0, 0), 7, true));
        x.work(1);
        due(1, x.answer(0));
    }

    // Promise 16: "-9: it isn't done yet;"
    static void answersNotYet() {
        FrameHeirs x = told(EIGHT + "serve r;serve r;serve r;");
        for (int done = 0; done <= 3; done++) {
            for (int step = 0; step < 3; step++) {
                due(step < done ? -2 : -9, x.answer(step));
            }
            x.run(1);
        }
        x.undo();
        x.undo();
        due(-2, x.answer(1));
        due(-9, x.answer(2));
    }

    // Promise 16: "-10: no such STEP."
    static void answersOfNoSuchStep() {
        FrameHeirs x = told("space a;" + "serve a;".repeat(24));
        for (int i = 0; i < 2; i++) {
            for (int step : new int[] {-1, 24, 25, LEAST, MOST}) {
                due(-10, x.answer(step));
            }
            due(i == 0 ? -9 : -2, x.answer(23));
            x.run(24);
        }
        tell(x, "space a;serve a;");
        due(-9, x.answer(0));
        due(-10, x.answer(1));
        due(-10, new FrameHeirs().answer(0));
    }
}
