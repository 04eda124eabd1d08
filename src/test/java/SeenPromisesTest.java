/** Promises 19 to 21: bytes of slots, levels, what is shown. */
public final class SeenPromisesTest {
    private static final Checks CHECKS = new Checks("SeenPromisesTest");

    public static void main(String[] args) {
        promise19();
        slotsOfKinds();
        invertedAndSwapped();
        parks();
        promise20();
        subsThatAdd();
        waves();
        promise21();
        curvesAndKinds();
        subsThatMaster();
        CHECKS.finish();
    }

    private static void same(String what, long got, long want) {
        CHECKS.same(what, got, want);
    }

    private static void slots(LightDesk desk, int first, int... due) {
        for (int i = 0; i < due.length; i++) {
            same("slot " + (first + i), desk.slot(first + i), due[i]);
        }
    }

    private static void promise19() {
        LightDesk desk = Checks.desk("patch 1 lamp at 200; patch 2 lamp at 1; 1 @ 500; 2 @ full;");
        same("slot 0", desk.slot(0), -2);
        same("slot 201", desk.slot(201), -2);
        same("slot least", desk.slot(Integer.MIN_VALUE), -2);
        same("slot greatest", desk.slot(Integer.MAX_VALUE), -2);
        same("slot 200", desk.slot(200), 128);
        same("slot 1", desk.slot(1), 255);
        same("slot of no unit", desk.slot(100), 0);
        for (int level = 0; level <= 1000; level += 37) {
            Checks.text(desk, "1 @ " + level + ";");
            same("byte of " + level, desk.slot(200), (level * 255 + 500) / 1000);
        }
    }

    private static void slotsOfKinds() {
        LightDesk desk = Checks.desk("patch 1 lamp at 1; patch 2 fine at 2; patch 3 warm at 4; patch 4 relay at 5; patch 5 tint at 6;"
            + "patch 6 glow at 10; patch 7 head at 13; patch 8 spot at 20; patch 9 roller at 28;");
        slots(desk, 1, 0, 0, 0, 8, 0, 0, 255, 255, 255, 0, 0, 0, 0, 0, 128, 0, 128, 0, 0, 0, 0, 128, 0, 128, 0, 0, 0, 0, 0);
        Checks.text(desk, "all @ 499 red 100 green 200 blue 300 pan 250 tilt 750 wheel 600 iris 400 roll 1000;");
        desk.advance(20);
        int fine = (499 * 65535 + 500) / 1000;
        int pan = (250 * 65535 + 500) / 1000;
        int tilt = (750 * 65535 + 500) / 1000;
        slots(desk, 1, 127, fine / 256, fine % 256, 127, 0, 127, 26, 51, 77,
            (49 * 255 + 500) / 1000, (99 * 255 + 500) / 1000, (149 * 255 + 500) / 1000,
            fine / 256, fine % 256, pan / 256, pan % 256, tilt / 256, tilt % 256, 153,
            fine / 256, fine % 256, pan / 256, pan % 256, tilt / 256, tilt % 256, 153, 102, 127, 204, 0);
        Checks.text(desk, "all @ full;");
        slots(desk, 1, 255, 255, 255, 255, 255, 255, 26, 51, 77, 26, 51, 77);
        desk.black(true);
        slots(desk, 1, 0, 0, 0, 0, 0, 0, 26, 51, 77, 0, 0, 0);
        slots(desk, 26, 153, 0, 0, 204);
        desk.black(false);
        Checks.text(desk, "8 @ 0;");
        same("iris of what shows nothing", desk.slot(27), 0);
        Checks.text(desk, "8 @ 1;");
        same("iris", desk.slot(27), 102);
        Checks.text(desk, "unpatch 5;");
        slots(desk, 5, 255, 0, 0, 0, 0, 26);
    }

    private static void invertedAndSwapped() {
        LightDesk desk = Checks.desk("patch 1 head at 1 invert; patch 2 head at 11 swap; patch 3 spot at 21 swap invert; patch 4 lamp at 31 invert swap;"
            + "all @ 100 pan 100 tilt 300;");
        int[] words = {900, 300, 300, 100, 700, 100};
        for (int i = 0; i < 6; i++) {
            int due = (words[i] * 65535 + 500) / 1000;
            int slot = 3 + i / 2 * 10 + i % 2 * 2;
            same("high of " + i, desk.slot(slot), due / 256);
            same("low of " + i, desk.slot(slot + 1), due % 256);
        }
        same("the LEVEL is not changed", desk.level(1, 4), 100);
        same("the LEVEL is not changed", desk.level(3, 5), 300);
        same("a lamp has none of it", desk.slot(31), 26);
    }

    private static void parks() {
        LightDesk desk = Checks.desk("patch 1 lamp at 5; 1 @ full; park 5 @ 7; park 6 @ 255; park 7 @ 0;");
        slots(desk, 4, 0, 7, 255, 0, 0);
        desk.black(true);
        same("parked with BLACK", desk.slot(5), 7);
        desk.black(false);
        same("SHOWN is not changed", desk.shown(1), 1000);
        Checks.text(desk, "unpatch 1;");
        same("a slot of no unit", desk.slot(5), 7);
        desk.undo();
        Checks.text(desk, "unpark 5;");
        slots(desk, 4, 0, 255, 255, 0);
        Checks.text(desk, "unpark all;");
        slots(desk, 4, 0, 255, 0, 0);
    }

    private static void promise20() {
        LightDesk desk = Checks.desk("patch 1 lamp at 1; patch 2 fine at 2; patch 3 warm at 4; patch 4 relay at 5; patch 5 tint at 6;"
            + "patch 6 glow at 10; patch 7 head at 13; patch 8 spot at 20; patch 40 roller at 28;");
        int[] units = {1, 2, 3, 4, 5, 6, 7, 8, 40};
        int[][] due = {
            {0, -2, -2, -2, -2, -2, -2, -2, -2}, {0, -2, -2, -2, -2, -2, -2, -2, -2}, {0, -2, -2, -2, -2, -2, -2, -2, -2},
            {0, -2, -2, -2, -2, -2, -2, -2, -2}, {0, 1000, 1000, 1000, -2, -2, -2, -2, -2}, {0, 1000, 1000, 1000, -2, -2, -2, -2, -2},
            {0, -2, -2, -2, 500, 500, 0, -2, -2}, {0, -2, -2, -2, 500, 500, 0, 1000, -2}, {0, -2, -2, -2, -2, -2, -2, -2, 0}};
        for (int i = 0; i < 9; i++) {
            for (int parameter = 0; parameter < 9; parameter++) {
                same("level " + units[i] + " " + parameter, desk.level(units[i], parameter), due[i][parameter]);
            }
            same("parameter -1", desk.level(units[i], -1), -2);
            same("parameter 9", desk.level(units[i], 9), -2);
            same("parameter 32", desk.level(units[i], 32), -2);
        }
        same("unit 0", desk.level(0, 0), -2);
        same("unit 41", desk.level(41, 0), -2);
        same("not patched", desk.level(9, 0), -2);
        same("least", desk.level(Integer.MIN_VALUE, Integer.MIN_VALUE), -2);
        same("greatest", desk.level(Integer.MAX_VALUE, Integer.MAX_VALUE), -2);
        Checks.text(desk, "1 @ 800; record 1; 1 @ 300;");
        desk.go();
        same("the programmer's value", desk.level(1, 0), 300);
        Checks.text(desk, "palette 1 = dim 77; 1 @ from 1;");
        same("from a palette", desk.level(1, 0), 77);
        Checks.text(desk, "palette 1 = dim 78;");
        same("a palette that changes", desk.level(1, 0), 78);
        Checks.text(desk, "palette 1 = red 5;");
        same("HOME if it has none", desk.level(1, 0), 0);
        Checks.text(desk, "clear;");
        same("the CUE LEVEL", desk.level(1, 0), 800);
    }

    private static void subsThatAdd() {
        LightDesk desk = Checks.desk("patch 1 tint at 1; 1 @ 400 red 5; record 1; clear; sub 1 with 1 @ 999; sub 2 with 1 @ 300;");
        desk.go();
        desk.fader(1, 333);
        same("the CUE LEVEL is the greatest", desk.level(1, 0), 400);
        desk.fader(1, 500);
        same("the sub, CUT", desk.level(1, 0), 499);
        desk.fader(2, 1000);
        same("the sub is the greatest", desk.level(1, 0), 499);
        desk.bump(1, true);
        same("BUMP", desk.level(1, 0), 999);
        same("red stays", desk.level(1, 1), 5);
        Checks.text(desk, "1 @ 7;");
        same("the programmer counts alone", desk.level(1, 0), 7);
        Checks.text(desk, "1 release; 1 red 6;");
        same("a value of red alone", desk.level(1, 0), 999);
        Checks.text(desk, "sub 1 masters;");
        same("one that MASTERS does not add", desk.level(1, 0), 400);
        Checks.text(desk, "sub 1 adds; sub 1 none;");
        same("sub none", desk.level(1, 0), 400);
        desk.back();
    }

    private static void waves() {
        LightDesk desk = Checks.desk("patch 1 tint at 1; patch 2 tint at 5; patch 3 tint at 9;"
            + "wave 1 = saw dim size 500 rate 30 spread 1000 on 3 + 1 + 2; wave 2 = peak dim size 999 rate 70 spread 100 on 1;"
            + "wave 3 = step red size 300 rate 250 spread 500 on all; wave 4 = peak green size 100 rate 1 spread 0 on 2;");
        desk.advance(5);
        same("none runs", desk.level(1, 0), 0);
        desk.run(1, true);
        int[] places = {1, 2, 0};
        for (int unit = 1; unit <= 3; unit++) {
            int f = (150 + places[unit - 1] * 1000 / 3) % 1000;
            same("saw of " + unit, desk.level(unit, 0), 500 * f / 1000);
        }
        Checks.text(desk, "1 @ 900;");
        same("above 1000 is 1000, onto the programmer's value", desk.level(1, 0), 1000);
        Checks.text(desk, "1 @ 100;");
        same("added to the programmer's value", desk.level(1, 0), 100 + 500 * 483 / 1000);
        desk.run(2, true);
        same("peak below 500", desk.level(1, 0), 100 + 241 + 999 * 700 / 1000 > 1000 ? 1000 : 100 + 241 + 699);
        Checks.text(desk, "clear;");
        same("peak added", desk.level(1, 0), 241 + 699);
        desk.advance(5);
        same("peak from 500 on", desk.level(1, 0), 500 * 633 / 1000 + 999 * 600 / 1000);
        desk.run(3, true);
        for (int unit = 1; unit <= 3; unit++) {
            int f = (2500 + (unit - 1) * 500 / 3) % 1000;
            same("red is full already", desk.level(unit, 1), 1000);
            same("f", f >= 500 ? 1 : 0, 1);
        }
        Checks.text(desk, "all red 10;");
        same("step", desk.level(1, 1), 310);
        desk.advance(2);
        same("step of 0", desk.level(1, 1), 10);
        desk.advance(1);
        same("step of 250", desk.level(1, 1), 10);
        same("step of 250 + 166", desk.level(2, 1), 10);
        same("step of 250 + 333", desk.level(3, 1), 310);
        Checks.text(desk, "unpatch 1;");
        same("a row of two now", desk.level(3, 1), 310);
        same("wave 2 has no units left", desk.wave(2, 0), -1);
        Checks.text(desk, "wave 3 = step red size 300 rate 500 spread 0 on 2;");
        desk.advance(600);
        same("f is 500 at an odd CLOCK", desk.level(2, 1), 310);
        desk.advance(1);
        same("f is 0 at an even one", desk.level(2, 1), 10);
    }

    private static void promise21() {
        LightDesk desk = Checks.desk("patch 1 lamp at 1; patch 40 glow at 2 limit 300; all @ 700;");
        same("shown", desk.shown(1), 700);
        same("shown of a limit", desk.shown(40), 300);
        same("not patched", desk.shown(2), -2);
        same("0", desk.shown(0), -2);
        same("41", desk.shown(41), -2);
        same("-1", desk.shown(-1), -2);
        same("greatest", desk.shown(Integer.MAX_VALUE), -2);
        desk.grand(333);
        same("grand", desk.shown(1), 233);
        same("grand ahead of the limit", desk.shown(40), 233);
        desk.grand(999);
        same("CUT", desk.shown(1), 699);
        desk.black(true);
        same("black", desk.shown(1), 0);
    }

    private static void curvesAndKinds() {
        LightDesk desk = Checks.desk("patch 1 lamp at 1 curve 1; patch 2 lamp at 2 curve 2; patch 3 lamp at 3 curve 3; patch 4 lamp at 4 curve 0;"
            + "patch 5 warm at 5; patch 6 relay at 6; patch 7 warm at 7 curve 1 limit 100; patch 8 relay at 8 curve 2 limit 400; patch 9 relay at 9 limit 499;"
            + "patch 10 warm at 10 limit 10;");
        int[] levels = {0, 1, 29, 30, 31, 292, 293, 499, 500, 707, 708, 999, 1000};
        for (int d : levels) {
            Checks.text(desk, "all @ " + d + ";");
            same("curve 1 of " + d, desk.shown(1), d * d / 1000);
            same("curve 2 of " + d, desk.shown(2), d * (2000 - d) / 1000);
            same("curve 3 of " + d, desk.shown(3), d > 0 ? 1000 : 0);
            same("curve 0 of " + d, desk.shown(4), d);
            same("warm of " + d, desk.shown(5), Math.max(30, d));
            same("relay of " + d, desk.shown(6), d >= 500 ? 1000 : 0);
            same("warm with a limit of " + d, desk.shown(7), 30);
            same("relay with curve 2 of " + d, desk.shown(8), d >= 293 ? 1000 : 0);
            same("relay with a limit of " + d, desk.shown(9), 0);
            same("warm with a lesser limit of " + d, desk.shown(10), 30);
        }
        desk.grand(0);
        same("warm with GRAND 0", desk.shown(5), 30);
        desk.grand(1000);
        desk.black(true);
        same("warm with BLACK", desk.shown(5), 0);
        same("curve 3 with BLACK", desk.shown(3), 0);
        same("relay with BLACK", desk.shown(6), 0);
    }

    private static void subsThatMaster() {
        LightDesk desk = Checks.desk("patch 1 lamp at 1; patch 2 lamp at 2; all @ 999; sub 1 with 1 @ 0; sub 1 masters; sub 3 masters; sub 3 with 1 @ 500;");
        same("by a FADER of 0", desk.shown(1), 0);
        same("the other unit", desk.shown(2), 999);
        desk.fader(1, 501);
        same("the other FADER", desk.shown(1), 0);
        desk.fader(3, 777);
        same("both, each CUT", desk.shown(1), 999 * 501 / 1000 * 777 / 1000);
        desk.bump(1, true);
        same("BUMP", desk.shown(1), 999 * 777 / 1000);
        same("the LEVEL is not changed", desk.level(1, 0), 999);
        Checks.text(desk, "sub 3 adds;");
        same("one that ADDS does not master", desk.shown(1), 999);
        desk.grand(500);
        same("behind GRAND", desk.shown(1), 499);
    }
}
