/** "Terms" 1 and 5: kinds and their slots, masters, levels, waves, what is shown, and bytes, each at its bounds. */
public final class EdgesOfSightTest {
    private static final Edges EDGES = new Edges("EdgesOfSightTest");
    /** The slots of each kind: whole, or h and l for the first and the second of two. */
    private static final String[] SLOTS = {"dim", "dim.h dim.l", "dim", "dim", "dim red green blue", "red green blue",
        "dim.h dim.l pan.h pan.l tilt.h tilt.l wheel", "dim.h dim.l pan.h pan.l tilt.h tilt.l wheel iris", "dim roll"};

    public static void main(String[] args) {
        parametersOfKinds();
        slotsOfKinds();
        slotsBesideAUnit();
        bytesOfLevels();
        glowsAndIrises();
        pansAndTilts();
        slotsOfNone();
        mastersAtFirst();
        programmerOrCue();
        subsThatAdd();
        subsThatMaster();
        sawAndItsTurn();
        peakAndStep();
        spreadOverARow();
        wavesInOrder();
        wavesOfWhom();
        grandAndLimit();
        curves();
        warmAndRelay();
        black();
        EDGES.finish();
    }

    private static int parameterOf(String name) {
        for (int i = 0; i < 9; i++) {
            if (Edges.PARAMETERS[i].equals(name)) {
                return i;
            }
        }
        return -1;
    }

    private static int one(int level) {
        return (level * 255 + 500) / 1000;
    }

    private static int two(int level) {
        return (level * 65535 + 500) / 1000;
    }

    private static void parametersOfKinds() {
        EDGES.sentence("KINDS, with the parameters that a unit of it HAS; PARAMETERS with their HOME levels");
        for (int i = 0; i < 9; i++) {
            LightDesk desk = Checks.desk("patch 7 " + Edges.KINDS[i] + " at 100;");
            for (int parameter = 0; parameter < 9; parameter++) {
                boolean has = (" " + Edges.HAS[i] + " ").contains(" " + Edges.PARAMETERS[parameter] + " ");
                EDGES.same(Edges.KINDS[i] + " " + Edges.PARAMETERS[parameter], desk.level(7, parameter), has ? Edges.HOME[parameter] : -2);
                EDGES.same(Edges.KINDS[i] + " tracked " + Edges.PARAMETERS[parameter], desk.tracked(0, 7, parameter), Edges.HOME[parameter]);
            }
        }
    }

    private static void slotsOfKinds() {
        EDGES.sentence("KINDS, in the order of its SLOTS (one each, two where 2 stands)");
        int[] levels = {0, 111, 222, 333, 444, 555, 666, 777, 888};
        for (int i = 0; i < 9; i++) {
            LightDesk desk = Checks.desk("patch 7 " + Edges.KINDS[i] + " at 100; "
                + "7 @ full red 111 green 222 blue 333 pan 444 tilt 555 wheel 666 iris 777 roll 888;");
            desk.advance(30);
            String[] slots = SLOTS[i].split(" ");
            for (int k = 0; k < slots.length; k++) {
                String[] name = slots[k].split("\\.");
                int parameter = parameterOf(name[0]);
                int level = parameter == 0 ? 1000 : levels[parameter];
                int due = name.length == 1 ? one(level) : name[1].equals("h") ? two(level) / 256 : two(level) % 256;
                EDGES.same(Edges.KINDS[i] + " slot " + slots[k], desk.slot(100 + k), due);
            }
            EDGES.same(Edges.KINDS[i] + " ahead of its first slot", desk.slot(99), 0);
            EDGES.same(Edges.KINDS[i] + " behind its last slot", desk.slot(100 + slots.length), 0);
        }
    }

    private static void slotsBesideAUnit() {
        EDGES.sentence("its slots lie one behind the other: at the first and at the last of all slots");
        for (int i = 0; i < 9; i++) {
            int width = SLOTS[i].split(" ").length;
            LightDesk desk = Checks.desk("patch 1 " + Edges.KINDS[i] + " at 1; patch 40 " + Edges.KINDS[i] + " at " + (201 - width) + "; all @ full;");
            EDGES.same(Edges.KINDS[i] + " slot 1", desk.slot(1), 255);
            EDGES.same(Edges.KINDS[i] + " behind it", desk.slot(1 + width), 0);
            EDGES.same(Edges.KINDS[i] + " ahead of the last one", desk.slot(200 - width), 0);
            EDGES.same(Edges.KINDS[i] + " its first slot", desk.slot(201 - width), 255);
        }
    }

    private static void bytesOfLevels() {
        EDGES.sentence("A level v in one slot is CUT(v * 255 + 500, 1000); in two: w = CUT(v * 65535 + 500, 1000), CUT(w, 256) in the first one, "
            + "the rest in the second");
        LightDesk desk = Checks.desk("patch 1 lamp at 1; patch 2 fine at 2; patch 3 head at 4; patch 4 roller at 11; patch 5 spot at 21; "
            + "patch 6 tint at 31;");
        int[][] rows = {{0, 0, 0}, {1, 0, 66}, {2, 1, 131}, {3, 1, 197}, {4, 1, 262}, {5, 1, 328}, {6, 2, 393}, {499, 127, 32702}, {500, 128, 32768},
            {501, 128, 32833}, {998, 254, 65404}, {999, 255, 65469}, {1000, 255, 65535}};
        int[] whole = {1, 10, 11, 12, 27, 31, 32, 33, 34};
        int[] firstOfTwo = {2, 4, 6, 8, 21, 23, 25};
        for (int[] row : rows) {
            StringBuilder text = new StringBuilder("all");
            for (String name : Edges.PARAMETERS) {
                text.append(' ').append(name).append(' ').append(row[0]);
            }
            EDGES.fine(desk, text + ";");
            desk.advance(30);
            for (int k : whole) {
                EDGES.same("slot " + k + " of " + row[0], desk.slot(k), row[1]);
            }
            for (int k : firstOfTwo) {
                EDGES.same("slot " + k + " of " + row[0], desk.slot(k), row[2] / 256);
                EDGES.same("slot " + (k + 1) + " of " + row[0], desk.slot(k + 1), row[2] % 256);
            }
            EDGES.same("iris of " + row[0], desk.slot(28), row[1]);
        }
    }

    private static void glowsAndIrises() {
        EDGES.sentence("Of glow a colour's is CUT(its LEVEL * SHOWN, 1000)");
        LightDesk desk = Checks.desk("patch 1 glow at 1; patch 2 tint at 4; all @ 0;");
        int[][] rows = {{0, 1000}, {1, 999}, {1, 1000}, {999, 999}, {1000, 0}, {1000, 1}, {1000, 1000}, {500, 501}};
        for (int[] row : rows) {
            EDGES.fine(desk, "all @ " + row[0] + " red " + row[1] + " green " + row[1] + " blue " + row[1] + ";");
            for (int k = 1; k <= 3; k++) {
                EDGES.same("glow " + row[0] + " of " + row[1], desk.slot(k), one(row[0] * row[1] / 1000));
                EDGES.same("tint " + row[0] + " of " + row[1], desk.slot(4 + k), one(row[1]));
            }
        }
        EDGES.sentence("iris: 0 if SHOWN is 0, else its LEVEL");
        LightDesk spot = Checks.desk("patch 1 spot at 1; 1 @ 0 iris 700;");
        EDGES.same("SHOWN 0", spot.slot(8), 0);
        EDGES.same("its LEVEL", spot.level(1, 7), 700);
        EDGES.fine(spot, "1 @ 1;");
        EDGES.same("SHOWN 1", spot.slot(8), one(700));
        spot.grand(999);
        EDGES.same("SHOWN 0 by GRAND", spot.slot(8), 0);
        spot.grand(1000);
        EDGES.fine(spot, "1 iris 0;");
        EDGES.same("a LEVEL 0", spot.slot(8), 0);
    }

    private static void pansAndTilts() {
        EDGES.sentence("pan, tilt: their LEVELS, of a unit that is SWAPPED the other one's; then, in pan's slots of one that is INVERTED, "
            + "1000 less that");
        String[] options = {"", " invert", " swap", " invert swap"};
        int[][] rows = {{0, 1000}, {1000, 0}, {1, 2}, {500, 500}, {999, 1}};
        for (int i = 0; i < 4; i++) {
            for (String kind : new String[] {"head", "spot"}) {
                LightDesk desk = Checks.desk("patch 1 " + kind + " at 1" + options[i] + ";");
                for (int[] row : rows) {
                    EDGES.fine(desk, "1 pan " + row[0] + " tilt " + row[1] + ";");
                    int pan = i >= 2 ? row[1] : row[0];
                    int tilt = i >= 2 ? row[0] : row[1];
                    EDGES.same("pan" + options[i], desk.slot(3) * 256 + desk.slot(4), two(i % 2 == 1 ? 1000 - pan : pan));
                    EDGES.same("tilt" + options[i], desk.slot(5) * 256 + desk.slot(6), two(tilt));
                    EDGES.same("the LEVEL of pan", desk.level(1, 4), row[0]);
                    EDGES.same("the LEVEL of tilt", desk.level(1, 5), row[1]);
                }
            }
        }
        EDGES.sentence("INVERTED and SWAPPED are nothing to a unit without pan and tilt");
        LightDesk desk = Checks.desk("patch 1 tint at 1 invert swap; patch 2 roller at 5 invert swap; 1 @ 100 red 200; 2 roll 40;");
        desk.advance(1);
        EDGES.same("dim", desk.slot(1), one(100));
        EDGES.same("red", desk.slot(2), one(200));
        EDGES.same("roll", desk.slot(6), one(40));
    }

    private static void slotsOfNone() {
        EDGES.sentence("A slot of no unit: 0. A slot that has one of PARKS has that byte in place of all this");
        LightDesk desk = Checks.desk("patch 1 fine at 100; 1 @ full;");
        for (int k : new int[] {1, 99, 102, 200}) {
            EDGES.same("slot " + k, desk.slot(k), 0);
        }
        EDGES.fine(desk, "park 1 @ 255; park 200 @ 1; park 100 @ 0;");
        EDGES.same("parked, of no unit", desk.slot(1), 255);
        EDGES.same("parked, of no unit", desk.slot(200), 1);
        EDGES.same("parked with 0", desk.slot(100), 0);
        EDGES.same("the other of two", desk.slot(101), 255);
        desk.black(true);
        EDGES.same("parked, with BLACK", desk.slot(1), 255);
        EDGES.same("BLACK", desk.slot(101), 0);
        desk.black(false);
        EDGES.fine(desk, "unpark 100;");
        EDGES.same("unparked", desk.slot(100), 255);
    }

    private static void mastersAtFirst() {
        EDGES.sentence("a FADER (0) and a BUMP (off) for each sub, GRAND (1000), BLACK (off), RUNS for each wave (off)");
        LightDesk desk = Checks.desk("patch 1 lamp at 1; patch 2 lamp at 2;");
        for (int s = 1; s <= 8; s++) {
            EDGES.fine(desk, "sub " + s + " with 1 @ 1000;");
        }
        for (int w = 1; w <= 4; w++) {
            EDGES.fine(desk, "wave " + w + " = step dim size 1000 rate 0 spread 500 on 2 + 1;");
        }
        EDGES.same("nothing adds, nothing runs", desk.level(1, 0), 0);
        LightDesk fresh = new LightDesk();
        for (int s = 1; s <= 8; s++) {
            EDGES.same("FADER " + s, fresh.fader(s, 1000), 0);
            EDGES.same("BUMP " + s, fresh.bump(s, true), 0);
        }
        for (int w = 1; w <= 4; w++) {
            EDGES.same("RUNS " + w, fresh.run(w, true), 0);
        }
        EDGES.same("GRAND", fresh.grand(0), 1000);
        EDGES.same("BLACK", fresh.black(true) ? 1 : 0, 0);
    }

    private static void programmerOrCue() {
        EDGES.sentence("The LEVEL: the programmer's value's LEVEL, if it has one there, else the CUE LEVEL");
        LightDesk desk = Checks.desk("patch 1 tint at 1; 1 @ 700 red 0; record 1; clear;");
        desk.go();
        EDGES.same("the CUE LEVEL", desk.level(1, 0), 700);
        EDGES.fine(desk, "1 @ 0 red 1000;");
        EDGES.same("a value of 0", desk.level(1, 0), 0);
        EDGES.same("a value of 1000", desk.level(1, 1), 1000);
        EDGES.same("without a value", desk.level(1, 2), 1000);
        EDGES.fine(desk, "1 release;");
        EDGES.same("released", desk.level(1, 0), 700);
    }

    private static void subsThatAdd() {
        EDGES.sentence("of dim, if the programmer has none there, the greatest of that and of what each sub that ADDS has for the unit, "
            + "times its FADER (1000 with BUMP) / 1000, CUT");
        LightDesk desk = Checks.desk("patch 1 tint at 1; patch 2 tint at 5; 1 @ 300; record 1; clear; sub 1 with 1 @ 999; sub 8 with 1 @ 600; "
            + "sub 2 with 1 @ 0;");
        desk.go();
        int[][] rows = {{0, 0, 300}, {1, 0, 300}, {300, 0, 300}, {301, 0, 300}, {302, 0, 301}, {999, 0, 998}, {1000, 0, 999}, {0, 500, 300},
            {0, 502, 301}, {500, 1000, 600}, {601, 1000, 600}, {602, 1000, 601}};
        for (int[] row : rows) {
            desk.fader(1, row[0]);
            desk.fader(8, row[1]);
            EDGES.same("FADERS " + row[0] + ", " + row[1], desk.level(1, 0), row[2]);
        }
        desk.fader(1, 0);
        desk.fader(8, 0);
        desk.bump(8, true);
        EDGES.same("BUMP", desk.level(1, 0), 600);
        desk.bump(1, true);
        EDGES.same("two BUMPS", desk.level(1, 0), 999);
        EDGES.same("a unit of no sub", desk.level(2, 0), 0);
        EDGES.same("a colour", desk.level(1, 1), 1000);
        EDGES.fine(desk, "1 @ 0;");
        EDGES.same("a value of the programmer, even 0, counts alone", desk.level(1, 0), 0);
        EDGES.fine(desk, "clear; 1 red 5;");
        EDGES.same("another parameter's value does not", desk.level(1, 0), 999);
        EDGES.fine(desk, "sub 1 masters; sub 8 masters;");
        EDGES.same("those that MASTER add nothing", desk.level(1, 0), 300);
    }

    private static void subsThatMaster() {
        EDGES.sentence("for each sub that MASTERS and has a level for the unit, by numbers, it becomes CUT(d * its FADER (1000 with BUMP), 1000)");
        LightDesk desk = Checks.desk("patch 1 lamp at 1; patch 2 lamp at 2; all @ 999; sub 1 with 1 @ 0; sub 8 with 1 @ 1000; sub 1 masters; "
            + "sub 2 masters; sub 8 masters;");
        EDGES.same("FADERS of 0", desk.shown(1), 0);
        EDGES.same("a unit of none", desk.shown(2), 999);
        int[][] rows = {{1000, 1000, 999}, {999, 1000, 998}, {999, 999, 997}, {1000, 0, 0}, {0, 1000, 0}, {1, 1000, 0}, {2, 1000, 1}, {500, 500,
            249}};
        for (int[] row : rows) {
            desk.fader(1, row[0]);
            desk.fader(8, row[1]);
            EDGES.same("FADERS " + row[0] + ", " + row[1], desk.shown(1), row[2]);
            EDGES.same("its LEVEL", desk.level(1, 0), 999);
        }
        desk.bump(1, true);
        EDGES.same("one BUMP", desk.shown(1), 499);
        desk.bump(8, true);
        EDGES.same("two BUMPS", desk.shown(1), 999);
        desk.bump(1, false);
        desk.bump(8, false);
        EDGES.fine(desk, "sub 1 none; sub 8 adds;");
        EDGES.same("none has it", desk.shown(1), 999);
        EDGES.sentence("by numbers, each CUT of its own");
        LightDesk low = Checks.desk("patch 1 lamp at 1; 1 @ 3; sub 1 with 1 @ 1; sub 2 with 1 @ 1; sub 1 masters; sub 2 masters;");
        low.fader(1, 500);
        low.fader(2, 999);
        EDGES.same("3, 1, 0", low.shown(1), 0);
        low.fader(1, 999);
        low.fader(2, 500);
        EDGES.same("3, 2, 1", low.shown(1), 1);
        EDGES.sentence("d is CUT(LEVEL of dim * GRAND, 1000), ahead of the subs");
        low.bump(2, true);
        low.grand(500);
        EDGES.same("3, 1, 0", low.shown(1), 0);
        low.fader(1, 500);
        low.grand(999);
        EDGES.same("3, 2, 1", low.shown(1), 1);
    }

    private static void sawAndItsTurn() {
        EDGES.sentence("f = (CLOCK * rate + CUT(k * spread, n)) modulo 1000, exactly; saw: CUT(size * f, 1000)");
        LightDesk desk = Checks.desk("patch 1 lamp at 1; wave 1 = saw dim size 1000 rate 333 spread 1000 on 1;");
        desk.run(1, true);
        int[] due = {0, 333, 666, 999, 332, 665};
        for (int clock = 0; clock < due.length; clock++) {
            EDGES.same("at the CLOCK " + clock, desk.level(1, 0), due[clock]);
            desk.advance(1);
        }
        EDGES.fine(desk, "wave 1 = saw dim size 999 rate 1000 spread 0 on 1;");
        EDGES.same("rate 1000 stands still", desk.level(1, 0), 0);
        EDGES.fine(desk, "wave 1 = saw dim size 1000 rate 0 spread 0 on 1;");
        EDGES.same("rate 0 stands still", desk.level(1, 0), 0);
        EDGES.fine(desk, "wave 1 = saw dim size 0 rate 333 spread 0 on 1;");
        EDGES.same("size 0", desk.level(1, 0), 0);
        EDGES.fine(desk, "wave 1 = saw dim size 1 rate 333 spread 0 on 1;");
        desk.advance(1);
        EDGES.same("size 1, CUT", desk.level(1, 0), 0);
        EDGES.sentence("f, exactly: at a great CLOCK");
        LightDesk late = Checks.desk("patch 1 lamp at 1; wave 1 = saw dim size 1000 rate 999 spread 0 on 1;");
        late.run(1, true);
        int clock = 0;
        for (int i = 0; i < 480; i++) {
            clock = late.advance(599);
        }
        EDGES.same("at the CLOCK " + clock, late.level(1, 0), (long) clock * 999 % 1000);
        EDGES.sentence("by the CLOCK, with HOLD, too");
        late.hold(true);
        late.advance(1);
        EDGES.same("a tenth later", late.level(1, 0), (clock + 1L) * 999 % 1000);
    }

    private static void peakAndStep() {
        EDGES.sentence("peak: CUT(size * g, 1000), g being 2 f if f is below 500, else 2000 - 2 f; step: size if f is 500 or more, else 0");
        int[] turns = {0, 1, 499, 500, 501, 998, 999};
        for (int turn : turns) {
            for (int size : new int[] {0, 1, 999, 1000}) {
                LightDesk desk = Checks.desk("patch 1 lamp at 1; patch 2 lamp at 2; "
                    + "wave 1 = peak dim size " + size + " rate " + turn + " spread 0 on 1;"
                    + "wave 2 = step dim size " + size + " rate " + turn + " spread 0 on 2;");
                desk.run(1, true);
                desk.run(2, true);
                desk.advance(1);
                EDGES.same("peak at " + turn, desk.level(1, 0), size * (turn < 500 ? 2 * turn : 2000 - 2 * turn) / 1000);
                EDGES.same("step at " + turn, desk.level(2, 0), turn >= 500 ? size : 0);
            }
        }
    }

    private static void spreadOverARow() {
        EDGES.sentence("with this unit as the k-th of its row (from 0 on; of n): CUT(k * spread, n)");
        LightDesk desk = Checks.desk(Edges.lamps(), "wave 1 = saw dim size 1000 rate 0 spread 1000 on 40 thru 1;");
        desk.run(1, true);
        for (int unit = 1; unit <= 40; unit++) {
            EDGES.same("unit " + unit, desk.level(unit, 0), (40 - unit) * 1000 / 40);
        }
        EDGES.fine(desk, "wave 1 = saw dim size 1000 rate 0 spread 1000 on 7 + 3 + 5;");
        EDGES.same("the first", desk.level(7, 0), 0);
        EDGES.same("the second, CUT", desk.level(3, 0), 333);
        EDGES.same("the third, CUT", desk.level(5, 0), 666);
        EDGES.same("one that is not in it", desk.level(4, 0), 0);
        EDGES.fine(desk, "unpatch 3;");
        EDGES.same("of two now", desk.level(5, 0), 500);
        EDGES.fine(desk, "wave 1 = saw dim size 1000 rate 0 spread 999 on 7 + 5;");
        EDGES.same("CUT", desk.level(5, 0), 499);
        EDGES.sentence("f modulo 1000: with the spread");
        EDGES.fine(desk, "wave 1 = saw dim size 1000 rate 500 spread 1000 on 7 + 5;");
        desk.advance(1);
        EDGES.same("500 + 0", desk.level(7, 0), 500);
        EDGES.same("500 + 500", desk.level(5, 0), 0);
    }

    private static void wavesInOrder() {
        EDGES.sentence("each wave that RUNS, in the order of waves, adds to it; behind each a level above 1000 is 1000");
        LightDesk desk = Checks.desk("patch 1 lamp at 1; patch 2 lamp at 2;");
        for (int w = 1; w <= 4; w++) {
            EDGES.fine(desk, "wave " + w + " = step dim size " + w * 100 + " rate 0 spread 1000 on 2 + 1;");
        }
        EDGES.same("none runs", desk.level(1, 0), 0);
        int due = 0;
        for (int w = 4; w >= 1; w--) {
            desk.run(w, true);
            due += w * 100;
            EDGES.same("from " + w + " on", desk.level(1, 0), due);
        }
        EDGES.same("the first of the row", desk.level(2, 0), 0);
        EDGES.fine(desk, "1 @ 1;");
        EDGES.same("above 1000", desk.level(1, 0), 1000);
        EDGES.fine(desk, "1 @ 0;");
        EDGES.same("1000", desk.level(1, 0), 1000);
        desk.run(1, false);
        EDGES.same("one stands", desk.level(1, 0), 900);
        EDGES.fine(desk, "1 @ 99;");
        EDGES.same("999", desk.level(1, 0), 999);
        EDGES.sentence("waves add onto what subs give");
        EDGES.fine(desk, "clear; sub 1 with 1 @ 50; wave 3 = none; wave 4 = none;");
        desk.bump(1, true);
        EDGES.same("50 and 200", desk.level(1, 0), 250);
    }

    private static void wavesOfWhom() {
        EDGES.sentence("of this parameter, with this unit in its row");
        LightDesk desk = Checks.desk("patch 1 spot at 1; patch 2 tint at 20; patch 3 roller at 30; patch 4 lamp at 40; "
            + "all @ 0 red 0 green 0 blue 0 pan 0 tilt 0 wheel 0 iris 0 roll 0;");
        desk.run(1, true);
        int[] having = {4, 2, 2, 2, 1, 1, 1, 1, 3};
        for (int parameter = 0; parameter < 9; parameter++) {
            EDGES.fine(desk, "wave 1 = step " + Edges.PARAMETERS[parameter] + " size 70 rate 0 spread 1000 on 4 thru 1 - " + having[parameter] + " + "
                + "" + having[parameter] + ";");
            for (int other = 0; other < 9; other++) {
                EDGES.same("wave of " + Edges.PARAMETERS[parameter] + ", seen of " + Edges.PARAMETERS[other], desk.level(having[other], other),
                    other == parameter ? 70 : 0);
            }
        }
        EDGES.sentence("a wave that is none gives nothing, though it RUNS");
        EDGES.fine(desk, "wave 1 = none;");
        for (int parameter = 0; parameter < 9; parameter++) {
            EDGES.same("none", desk.level(having[parameter], parameter), 0);
        }
    }

    private static void grandAndLimit() {
        EDGES.sentence("SHOWN: d is CUT(LEVEL of dim * GRAND, 1000); the lesser of that and LIMIT");
        int[][] rows = {{1000, 1000, 1000, 1000}, {1000, 999, 1000, 999}, {1000, 1000, 999, 999}, {999, 999, 1000, 998}, {500, 1000, 499, 499},
            {500, 1000, 500, 500}, {500, 1000, 501, 500}, {1000, 0, 1000, 0}, {0, 1000, 1000, 0}, {1000, 1000, 0, 0}, {1000, 1, 1000, 1}, {999, 1,
                1000, 0},
            {1000, 500, 400, 400}, {1000, 300, 400, 300}};
        for (int[] row : rows) {
            LightDesk desk = Checks.desk("patch 1 lamp at 1 limit " + row[2] + "; 1 @ " + row[0] + ";");
            desk.grand(row[1]);
            EDGES.same("LEVEL " + row[0] + ", GRAND " + row[1] + ", LIMIT " + row[2], desk.shown(1), row[3]);
            EDGES.same("its LEVEL", desk.level(1, 0), row[0]);
        }
    }

    private static void curves() {
        EDGES.sentence("by the CURVE: 0 d; 1 CUT(d * d, 1000); 2 CUT(d * (2000 - d), 1000); 3 1000 if d is above 0, else 0");
        LightDesk desk = Checks.desk("patch 1 lamp at 1 curve 0; patch 2 lamp at 2 curve 1; patch 3 lamp at 3 curve 2; patch 4 lamp at 4 curve 3;");
        int[][] rows = {{0, 0, 0, 0}, {1, 0, 1, 1000}, {2, 0, 3, 1000}, {31, 0, 61, 1000}, {32, 1, 62, 1000}, {500, 250, 750, 1000},
            {999, 998, 999, 1000}, {1000, 1000, 1000, 1000}};
        for (int[] row : rows) {
            EDGES.fine(desk, "all @ " + row[0] + ";");
            EDGES.same("CURVE 0 of " + row[0], desk.shown(1), row[0]);
            EDGES.same("CURVE 1 of " + row[0], desk.shown(2), row[1]);
            EDGES.same("CURVE 2 of " + row[0], desk.shown(3), row[2]);
            EDGES.same("CURVE 3 of " + row[0], desk.shown(4), row[3]);
        }
        EDGES.sentence("by the CURVE, behind the LIMIT");
        LightDesk limited = Checks.desk("patch 1 lamp at 1 limit 500 curve 1; patch 2 lamp at 2 limit 500 curve 2; "
            + "patch 3 lamp at 3 limit 1 curve 3; patch 4 lamp at 4 limit 0 curve 3; all @ full;");
        int[] due = {250, 750, 1000, 0};
        for (int unit = 1; unit <= 4; unit++) {
            EDGES.same("unit " + unit, limited.shown(unit), due[unit - 1]);
        }
    }

    private static void warmAndRelay() {
        EDGES.sentence("Then of a warm unit: 30 at least, but with BLACK; of a relay 1000 if that is 500 or more, else 0");
        LightDesk desk = Checks.desk("patch 1 warm at 1; patch 2 relay at 2; patch 3 warm at 3 curve 1; patch 4 relay at 4 curve 1; "
            + "patch 5 warm at 5 limit 7; patch 6 relay at 6 limit 499;");
        int[][] rows = {{0, 30, 0, 30, 0}, {29, 30, 0, 30, 0}, {30, 30, 0, 30, 0}, {31, 31, 0, 30, 0}, {499, 499, 0, 249, 0}, {500, 500, 1000, 250,
            0},
            {707, 707, 1000, 499, 0}, {708, 708, 1000, 501, 1000}, {1000, 1000, 1000, 1000, 1000}};
        for (int[] row : rows) {
            EDGES.fine(desk, "all @ " + row[0] + ";");
            for (int unit = 1; unit <= 4; unit++) {
                EDGES.same("unit " + unit + " at " + row[0], desk.shown(unit), row[unit]);
            }
            EDGES.same("warm, above its LIMIT", desk.shown(5), 30);
            EDGES.same("relay, below its LIMIT", desk.shown(6), 0);
        }
        desk.grand(0);
        EDGES.same("warm with GRAND 0", desk.shown(1), 30);
        EDGES.same("its byte", desk.slot(1), 8);
        desk.grand(500);
        EDGES.same("relay at 500", desk.shown(2), 1000);
        desk.grand(499);
        EDGES.same("relay at 499", desk.shown(2), 0);
    }

    private static void black() {
        EDGES.sentence("0 with BLACK");
        StringBuilder text = new StringBuilder();
        for (int i = 0; i < 9; i++) {
            text.append("patch ").append(i + 1).append(' ').append(Edges.KINDS[i]).append(" at ").append(1 + i * 10).append(" curve 3;");
        }
        LightDesk desk = Checks.desk(text.toString(), "all @ full;");
        desk.black(true);
        for (int unit = 1; unit <= 9; unit++) {
            EDGES.same("with BLACK, unit " + unit, desk.shown(unit), 0);
            EDGES.same("its LEVEL", desk.level(unit, 0), 1000);
        }
        EDGES.same("a colour of glow", desk.slot(51), 0);
        EDGES.same("a colour of tint", desk.slot(42), 255);
        EDGES.same("an iris", desk.slot(78), 0);
        desk.black(false);
        for (int unit = 1; unit <= 9; unit++) {
            EDGES.same("without BLACK, unit " + unit, desk.shown(unit), 1000);
        }
    }
}
