/** Promises 22 to 35: what the show is, and what statements make of it. */
public final class ShowPromisesTest {
    private static final Checks CHECKS = new Checks("ShowPromisesTest");
    private static final String RIG =
        "patch 1 lamp at 1; patch 2 tint at 2; patch 3 head at 10; patch 4 spot at 20; patch 5 roller at 30;";
    private static final int[] ODD = {Integer.MIN_VALUE, -1000000, -3, -1, 0, 13, 41, 201, 1000, 1000000, Integer.MAX_VALUE};

    public static void main(String[] args) {
        promise22();
        promise23();
        promise24();
        promise25();
        promise26();
        recording();
        updating();
        cuesMadeAndGone();
        blocking();
        promise27();
        unpatching();
        promise28();
        promise29();
        promise30();
        promise31();
        promise32();
        promise33();
        promise34();
        promise35();
        fortyUnits();
        oddArguments();
        CHECKS.finish();
    }

    private static void same(String what, long got, long want) {
        CHECKS.same(what, got, want);
    }

    private static void done(LightDesk desk, String text) {
        Checks.text(desk, text);
        same("fault of " + text, desk.fault(0), 0);
    }

    private static void promise22() {
        LightDesk desk = Checks.desk(RIG, "1 @ 100; 3 pan 700; record 10; clear; 1 @ 200; record 20; clear; palette 1 = dim 50; 1 @ from 1; record 30; clear;");
        int[][] due = {{0, 0}, {1, 0}, {9, 0}, {10, 100}, {11, 100}, {19, 100}, {20, 200}, {29, 200}, {30, 50}, {999, 50}};
        for (int[] row : due) {
            same("tracked in " + row[0], desk.tracked(row[0], 1, 0), row[1]);
            same("pan tracked in " + row[0], desk.tracked(row[0], 3, 4), row[0] < 10 ? 500 : 700);
        }
        done(desk, "palette 1 = dim 60;");
        same("a palette that changes", desk.tracked(40, 1, 0), 60);
        done(desk, "palette 1 = red 60;");
        same("HOME if it has none", desk.tracked(40, 1, 0), 0);
        int[] home = {0, 1000, 1000, 1000, 500, 500, 0, 1000, 0};
        for (int parameter = 0; parameter < 9; parameter++) {
            same("of a unit that is not patched", desk.tracked(500, 40, parameter), home[parameter]);
        }
        same("c -1", desk.tracked(-1, 1, 0), -2);
        same("c 1000", desk.tracked(1000, 1, 0), -2);
        same("unit 0", desk.tracked(10, 0, 0), -2);
        same("unit 41", desk.tracked(10, 41, 0), -2);
        same("parameter -1", desk.tracked(10, 1, -1), -2);
        same("parameter 9", desk.tracked(10, 1, 9), -2);
    }

    private static void promise23() {
        LightDesk desk = Checks.desk(RIG, "1 @ 100; 3 pan 700; record 10; clear; 1 @ 100; record 20; clear;");
        int[][] due = {{0, 0}, {9, 0}, {10, 10}, {19, 10}, {20, 20}, {999, 20}};
        for (int[] row : due) {
            same("origin in " + row[0], desk.origin(row[0], 1, 0), row[1]);
            same("origin of pan in " + row[0], desk.origin(row[0], 3, 4), row[0] < 10 ? 0 : 10);
        }
        same("without one", desk.origin(999, 40, 0), 0);
        same("c -1", desk.origin(-1, 1, 0), -2);
        same("c 1000", desk.origin(1000, 1, 0), -2);
        same("unit 0", desk.origin(10, 0, 0), -2);
        same("unit 41", desk.origin(10, 41, 0), -2);
        same("parameter -1", desk.origin(10, 1, -1), -2);
        same("parameter 9", desk.origin(10, 1, 9), -2);
    }

    private static void promise24() {
        LightDesk desk = Checks.desk(RIG, "1 @ 100; 2 red from 12; record 10; cue 20;");
        same("a level", desk.change(10, 1, 0), 100);
        same("a palette", desk.change(10, 2, 1), 2012);
        same("none", desk.change(10, 2, 0), -1);
        same("none of a unit not patched", desk.change(10, 40, 8), -1);
        same("it does not track", desk.change(20, 1, 0), -1);
        same("no such cue", desk.change(15, 1, 0), -2);
        same("no such cue", desk.change(0, 1, 0), -2);
        same("unit 0", desk.change(10, 0, 0), -2);
        same("unit 41", desk.change(10, 41, 0), -2);
        same("parameter -1", desk.change(10, 1, -1), -2);
        same("parameter 9", desk.change(10, 1, 9), -2);
        done(desk, "blind 20; 1 @ 7 release; 2 @ 8; live;");
        same("released", desk.change(20, 1, 0), -1);
        same("blind", desk.change(20, 2, 0), 8);
    }

    private static void promise25() {
        LightDesk desk = Checks.desk(RIG, "1 @ 100; 2 red from 3;");
        same("a level", desk.held(1, 0), 100);
        same("a palette", desk.held(2, 1), 2003);
        same("none", desk.held(2, 0), -1);
        same("none of a unit not patched", desk.held(40, 8), -1);
        same("unit 0", desk.held(0, 0), -2);
        same("unit 41", desk.held(41, 0), -2);
        same("parameter -1", desk.held(1, -1), -2);
        same("parameter 9", desk.held(1, 9), -2);
        done(desk, "clear;");
        same("clear", desk.held(1, 0), -1);
    }

    private static void cueIs(LightDesk desk, int i, int... due) {
        for (int what = 0; what < due.length; what++) {
            same("cue " + i + " " + what, desk.cue(i, what), due[what]);
        }
        same("cue " + i + " 8", desk.cue(i, 8), -1);
        same("cue " + i + " -1", desk.cue(i, -1), -1);
    }

    private static void promise26() {
        LightDesk desk = Checks.desk(RIG, "cue 50 up 1 down 2 move 3 delay 4 follow 5 link 6; cue 7; 1 @ 5; 2 home; record 20 up 9;");
        cueIs(desk, 0, 7, 0, 0, 0, 0, -1, 0, -1);
        cueIs(desk, 1, 20, 9, 0, 0, 0, -1, 5, -1);
        cueIs(desk, 2, 50, 1, 2, 3, 4, 5, 0, 6);
        same("no such cue", desk.cue(3, 0), -1);
        same("no such cue", desk.cue(-1, 0), -1);
        same("no such cue", desk.cue(30, 0), -1);
        done(desk, "cue 50 down 20 stay;");
        cueIs(desk, 2, 50, 1, 20, 3, 4, -1, 0, 6);
        done(desk, "record 50 loose up 0 follow 0;");
        cueIs(desk, 2, 50, 0, 20, 3, 4, 0, 5, -1);
        done(desk, "delete 7;");
        cueIs(desk, 0, 20, 9, 0, 0, 0, -1, 5, -1);
    }

    private static void recording() {
        LightDesk desk = Checks.desk(RIG, "1 @ 100; 2 red 5; record 10; clear; 1 @ 200; record 10;");
        same("others stay", desk.change(10, 2, 1), 5);
        same("recorded", desk.change(10, 1, 0), 200);
        same("the programmer stays", desk.held(1, 0), 200);
        done(desk, "clear; palette 3 = dim 7; 1 @ from 3; record 20; clear; 3 pan 1; record 40;");
        done(desk, "clear; 1 @ 900; 2 red 900 green 900; 3 pan 900; record 30 only up 5;");
        same("recorded", desk.change(30, 1, 0), 900);
        same("the next greater keeps FROM", desk.change(40, 1, 0), 2003);
        same("the next greater keeps a level", desk.change(40, 2, 1), 5);
        same("the next greater keeps HOME", desk.change(40, 2, 2), 1000);
        same("its own change stays", desk.change(40, 3, 4), 1);
        same("where the programmer has none", desk.change(40, 2, 3), -1);
        same("its time", desk.cue(2, 1), 5);
        done(desk, "1 @ 800; record 50 only; record 30 only;");
        same("no greater one", desk.change(50, 1, 0), 800);
        same("again", desk.change(40, 1, 0), 2003);
        done(desk, "clear; 1 @ 11; record 20 only;");
        same("the next greater has its change", desk.change(30, 1, 0), 800);
        done(desk, "clear; 4 iris 3; record 20 only;");
        same("HOME of iris", desk.change(30, 4, 7), 1000);
        same("only the next", desk.change(40, 4, 7), -1);
    }

    private static void updating() {
        LightDesk desk = Checks.desk(RIG, "1 @ 100; record 10; clear; 2 red 5; record 20; clear; cue 30; cue 40; 1 @ 300; record 50; clear;");
        desk.jump(40);
        done(desk, "1 @ 150; 2 red from 1; 3 pan 9; update;");
        same("its ORIGIN", desk.change(10, 1, 0), 150);
        same("its ORIGIN", desk.change(20, 2, 1), 2001);
        same("none: of CURRENT", desk.change(40, 3, 4), 9);
        same("CURRENT has no other", desk.change(40, 1, 0), -1);
        same("the programmer is empty", desk.state(7), 0);
        done(desk, "delete 40; 4 @ 6; update;");
        same("the greatest not above CURRENT", desk.change(30, 4, 0), 6);
        same("those behind stay", desk.change(50, 1, 0), 300);
        same("seen at once", desk.level(4, 0), 6);
        done(desk, "blind 50; 1 @ 1; live; 1 @ 2; blind 50; update; live;");
        same("the programmer's, with BLIND, too", desk.change(10, 1, 0), 2);
        same("the blind cue", desk.change(50, 1, 0), 1);
    }

    private static void cuesMadeAndGone() {
        LightDesk desk = Checks.desk(RIG, "palette 1 = red 1; 1 @ 100; 2 red from 1; record 10 up 1 down 2 move 3 delay 4 follow 5 link 10; clear;");
        done(desk, "copy 10 to 5; copy 10 to 999;");
        cueIs(desk, 0, 5, 1, 2, 3, 4, 5, 2, 10);
        cueIs(desk, 2, 999, 1, 2, 3, 4, 5, 2, 10);
        same("changes", desk.change(5, 2, 1), 2001);
        done(desk, "blind 5; 1 @ 7; live;");
        same("a copy of its own", desk.change(10, 1, 0), 100);
        done(desk, "blind 10; delete 5;");
        same("another one's BLIND", desk.state(6), 10);
        done(desk, "delete 10;");
        same("BLIND is none", desk.state(6), -1);
        same("one", desk.state(3), 1);
        same("gone", desk.change(10, 1, 0), -2);
        done(desk, "cue 10;");
        cueIs(desk, 0, 10, 0, 0, 0, 0, -1, 0, -1);
        done(desk, "blind 10; 1 @ 50; cue 10 up 3; blind 999; live;");
        same("cue leaves changes", desk.change(10, 1, 0), 50);
        same("live", desk.state(6), -1);
    }

    private static void blocking() {
        LightDesk desk = Checks.desk(RIG, "palette 1 = dim 100;",
            "1 @ 100; 2 @ from 1 red 5; 3 pan 9; record 10; clear; 1 @ 100; 2 red 6; record 20; clear;");
        done(desk, "block 20;");
        same("block", desk.cue(1, 6), 4);
        same("FROM stays", desk.change(20, 2, 0), 2001);
        same("its own stays", desk.change(20, 2, 1), 6);
        same("tracked", desk.change(20, 3, 4), 9);
        done(desk, "unblock 10;");
        same("no lesser one", desk.cue(0, 6), 4);
        done(desk, "unblock 20;");
        same("unblock", desk.cue(1, 6), 1);
        same("another level stays", desk.change(20, 2, 1), 6);
        done(desk, "blind 20; 2 @ 100; 1 @ from 1; live; unblock 20;");
        same("a level is not the same as FROM", desk.change(20, 2, 0), 100);
        same("FROM is not the same as a level", desk.change(20, 1, 0), 2001);
        done(desk, "cue 15; blind 15; 1 @ from 1; live; unblock 20;");
        same("the same palette", desk.change(20, 1, 0), -1);
        done(desk, "blind 20; 2 green 1000; live; unblock 20;");
        same("HOME is not the same as none", desk.change(20, 2, 2), 1000);
        done(desk, "cue 17; unblock 20; blind 20; 1 @ from 1; live; unblock 20;");
        same("tracked over a cue without a change", desk.change(20, 1, 0), -1);
    }

    private static void unitIs(LightDesk desk, int unit, int... due) {
        for (int what = 0; what < due.length; what++) {
            same("unit " + unit + " " + what, desk.unit(unit, what), due[what]);
        }
        same("unit 7", desk.unit(unit, 7), -1);
        same("unit -1", desk.unit(unit, -1), -1);
    }

    private static void promise27() {
        LightDesk desk = Checks.desk("patch 1 lamp at 1 curve 2; patch 2 fine at 2 limit 0; patch 3 warm at 4 invert; patch 4 relay at 5 swap;"
            + "patch 5 tint at 6; patch 6 glow at 10; patch 7 head at 13; patch 8 spot at 20 swap limit 7 invert curve 3; patch 40 roller at 199;");
        unitIs(desk, 1, 0, 1, 1000, 2, 0, 0, 0);
        unitIs(desk, 2, 1, 2, 0, 0, 0, 0, 0);
        unitIs(desk, 3, 2, 4, 1000, 0, 1, 0, 0);
        unitIs(desk, 4, 3, 5, 1000, 0, 0, 1, 0);
        unitIs(desk, 5, 4, 6, 1000, 0, 0, 0, 0);
        unitIs(desk, 6, 5, 10, 1000, 0, 0, 0, 0);
        unitIs(desk, 7, 6, 13, 1000, 0, 0, 0, 0);
        unitIs(desk, 8, 7, 20, 7, 3, 1, 1, 0);
        unitIs(desk, 40, 8, 199, 1000, 0, 0, 0, 0);
        unitIs(desk, 9, -1, -1, -1, -1, -1, -1, -1);
        unitIs(desk, 0, -1, -1, -1, -1, -1, -1, -1);
        unitIs(desk, 41, -1, -1, -1, -1, -1, -1, -1);
        Checks.text(desk, "40 roll 1000;");
        desk.advance(2);
        same("POSITION", desk.unit(40, 6), 80);
    }

    private static void unpatching() {
        LightDesk desk = Checks.desk(RIG, "group 1 = 1 + 2 + 3; group 2 = 2; sub 1 with all @ 5; wave 1 = saw dim size 5 rate 5 spread 5 on 3 + 2;",
            "wave 2 = saw dim size 5 rate 5 spread 5 on 2; all @ 50 red 60; record 1; park 2 @ 9;");
        done(desk, "unpatch 2;");
        same("not patched", desk.unit(2, 0), -1);
        same("patched", desk.state(4), 4);
        same("group", desk.group(1, 1), 3);
        same("group", desk.group(1, 2), -1);
        same("group without units", desk.group(2, 0), -1);
        same("sub", desk.sub(1, 2), -1);
        same("sub of others", desk.sub(1, 3), 5);
        same("wave", desk.wave(1, 5), 3);
        same("wave", desk.wave(1, 6), -1);
        same("wave without units is none", desk.wave(2, 0), -1);
        same("wave without units is none", desk.wave(2, 4), -1);
        same("cues", desk.change(1, 2, 0), -1);
        same("cues", desk.change(1, 2, 1), -1);
        same("cues of others", desk.change(1, 1, 0), 50);
        same("programmer", desk.held(2, 1), -1);
        same("programmer of others", desk.held(3, 0), 50);
        same("parks stay", desk.park(2), 9);
        done(desk, "patch 2 lamp at 2;");
        same("it does not come back", desk.held(2, 0), -1);
        done(desk, "unpatch all;");
        same("all", desk.state(4), 0);
        same("the cue stays", desk.state(3), 1);
        same("without changes", desk.cue(0, 6), 0);
        same("a group that has none left", desk.group(1, 0), -1);
        LightDesk last = Checks.desk(RIG, "group 12 = 1 + 2; sub 8 with 1 + 2 @ 7; wave 4 = saw dim size 5 rate 5 spread 5 on 1 + 2; 1 @ 5; record 999; unpatch 1;");
        same("the last group", last.group(12, 0), 2);
        same("the last sub", last.sub(8, 1), -1);
        same("the last wave", last.wave(4, 5), 2);
        same("the last cue", last.change(999, 1, 0), -1);
    }

    private static void promise28() {
        LightDesk desk = Checks.desk(RIG, "group 1 = 5 + 1; group 12 = 3;");
        same("group", desk.group(1, 0), 5);
        same("group", desk.group(1, 1), 1);
        same("group", desk.group(1, 2), -1);
        same("group", desk.group(1, -1), -1);
        same("group", desk.group(1, 40), -1);
        same("group", desk.group(12, 0), 3);
        same("group", desk.group(2, 0), -1);
        same("group", desk.group(0, 0), -1);
        same("group", desk.group(13, 0), -1);
        done(desk, "group 1 = 2;");
        same("whatever it was", desk.group(1, 0), 2);
        same("whatever it was", desk.group(1, 1), -1);
    }

    private static void promise29() {
        LightDesk desk = Checks.desk("palette 1 = dim 1 red 2 green 3 blue 4 pan 5 tilt 6 wheel 7 iris 8 roll 9; palette 12 = iris 0;");
        for (int parameter = 0; parameter < 9; parameter++) {
            same("palette", desk.palette(1, parameter), parameter + 1);
            same("palette", desk.palette(12, parameter), parameter == 7 ? 0 : -1);
        }
        same("palette", desk.palette(1, 9), -1);
        same("palette", desk.palette(1, -1), -1);
        same("palette", desk.palette(0, 0), -1);
        same("palette", desk.palette(13, 0), -1);
        done(desk, "palette 1 = red 20;");
        same("whatever it was", desk.palette(1, 1), 20);
        same("whatever it was", desk.palette(1, 0), -1);
        done(desk, "palette 1 = none;");
        same("none", desk.palette(1, 1), -1);
    }

    private static void promise30() {
        LightDesk desk = Checks.desk(RIG, "sub 1 with 1 + 3 @ 50; sub 8 with 5 @ 0;");
        same("sub", desk.sub(1, 1), 50);
        same("sub", desk.sub(1, 2), -1);
        same("sub", desk.sub(1, 3), 50);
        same("sub", desk.sub(8, 5), 0);
        same("sub", desk.sub(1, 40), -1);
        same("sub", desk.sub(0, 1), -1);
        same("sub", desk.sub(9, 1), -1);
        same("sub", desk.sub(1, 0), -1);
        same("sub", desk.sub(1, 41), -1);
        done(desk, "sub 1 with 3 + 4 @ 60;");
        same("others stay", desk.sub(1, 1), 50);
        same("changed", desk.sub(1, 3), 60);
        done(desk, "sub 1 masters; sub 1 none;");
        same("none", desk.sub(1, 1), -1);
        same("it MASTERS as it did", desk.masters(1), 1);
        same("others", desk.sub(8, 5), 0);
    }

    private static void promise31() {
        LightDesk desk = Checks.desk("sub 1 masters; sub 8 masters; sub 3 adds;");
        same("masters", desk.masters(1), 1);
        same("masters", desk.masters(8), 1);
        same("masters", desk.masters(3), 0);
        same("masters", desk.masters(0), -2);
        same("masters", desk.masters(9), -2);
        done(desk, "sub 1 adds;");
        same("masters", desk.masters(1), 0);
    }

    private static void promise32() {
        LightDesk desk = Checks.desk("park 1 @ 0; park 200 @ 255;");
        same("park", desk.park(1), 0);
        same("park", desk.park(200), 255);
        same("park", desk.park(2), -1);
        same("park", desk.park(0), -1);
        same("park", desk.park(201), -1);
        done(desk, "park 1 @ 9; unpark 200; unpark 3;");
        same("park", desk.park(1), 9);
        same("unpark", desk.park(200), -1);
        done(desk, "unpark all;");
        same("unpark all", desk.park(1), -1);
        done(desk, "unpark all;");
    }

    private static void promise33() {
        LightDesk desk = Checks.desk("event 1 = 0 cue 999; event 10 = 9999 cue 1;");
        same("event", desk.event(1, 0), 0);
        same("event", desk.event(1, 1), 999);
        same("event", desk.event(10, 0), 9999);
        same("event", desk.event(10, 1), 1);
        same("event", desk.event(1, 2), -1);
        same("event", desk.event(1, -1), -1);
        same("event", desk.event(2, 0), -1);
        same("event", desk.event(2, 1), -1);
        same("event", desk.event(0, 0), -1);
        same("event", desk.event(11, 0), -1);
        desk.advance(600);
        done(desk, "event 10 = none;");
        same("none", desk.event(10, 0), -1);
        same("none", desk.event(10, 1), -1);
    }

    private static void promise34() {
        LightDesk desk = Checks.desk(RIG, "wave 1 = saw dim size 1 rate 2 spread 3 on 3 + 1; wave 2 = peak iris size 1000 rate 0 spread 0 on 2;"
            + "wave 4 = step roll size 0 rate 1000 spread 1000 on all;");
        int[][] due = {{0, 0, 1, 2, 3, 3, 1, -1}, {1, 7, 1000, 0, 0, 2, -1, -1}, {-1, -1, -1, -1, -1, -1, -1, -1}, {2, 8, 0, 1000, 1000, 1, 2, 3, 4, 5, -1}};
        for (int w = 1; w <= 4; w++) {
            for (int what = 0; what < due[w - 1].length; what++) {
                same("wave " + w + " " + what, desk.wave(w, what), due[w - 1][what]);
            }
            same("wave " + w + " -1", desk.wave(w, -1), -1);
            same("wave " + w + " 1000", desk.wave(w, 1000), -1);
        }
        same("wave 0", desk.wave(0, 0), -1);
        same("wave 5", desk.wave(5, 0), -1);
        done(desk, "wave 1 = step red size 9 rate 8 spread 7 on 4;");
        same("whatever it was", desk.wave(1, 2), 9);
        same("whatever it was", desk.wave(1, 6), -1);
        done(desk, "wave 1 = none;");
        same("none", desk.wave(1, 0), -1);
        same("none", desk.wave(1, 5), -1);
    }

    private static void promise35() {
        LightDesk desk = Checks.desk(RIG, "1 @ 5 thru 6; 2 red 7; record 3 up 10; record 7; blind 7;", "live; blind 3; live; blind 7;");
        desk.advance(3);
        desk.hold(true);
        desk.advance(2);
        desk.hold(false);
        desk.jump(3);
        Checks.put(desk, "live;");
        int[] due = {5, 3, 3, 2, 5, 3, 7, 2, 1, 5};
        for (int what = 0; what < 10; what++) {
            same("state " + what, desk.state(what), due[what]);
        }
        same("state 10", desk.state(10), -1);
        same("state -1", desk.state(-1), -1);
        desk.enter();
        same("live", desk.state(6), -1);
        same("one more to undo", desk.state(5), 4);
        desk.undo();
        same("one less", desk.state(5), 3);
        desk.advance(10);
        same("none fades", desk.state(8), 0);
    }

    /** The last of all numbers is as good as the first. */
    private static void fortyUnits() {
        StringBuilder text = new StringBuilder();
        for (int unit = 1; unit <= 40; unit++) {
            text.append("patch ").append(unit).append(unit == 40 ? " tint at 197;" : " lamp at " + unit + ";");
        }
        LightDesk desk = Checks.desk(text.toString(), "group 1 = all; wave 1 = saw dim size 5 rate 5 spread 5 on all; sub 8 masters; sub 8 with 40 @ 5;",
            "all @ 100; record 1; 40 @ 500 red 300; record 2 up 10; clear; event 10 = 2 cue 2;");
        same("patched", desk.state(4), 40);
        desk.go();
        same("unit 40", desk.level(40, 0), 100);
        desk.advance(2);
        same("event 10", desk.state(2), 2);
        desk.advance(4);
        same("fades", desk.level(40, 0), 300);
        same("fades", desk.level(40, 1), 300);
        same("slot 198", desk.slot(198), 77);
        desk.advance(20);
        same("sub 8", desk.shown(40), 0);
        desk.fader(8, 500);
        same("sub 8", desk.shown(40), 250);
        same("slot 197", desk.slot(197), 64);
        same("slot 40", desk.slot(40), 0);
        done(desk, "blind 2; 40 @ 700; live;");
        same("settled", desk.level(40, 0), 700);
        done(desk, "unpatch 1; unpatch 40;");
        same("a whole row with one gone", desk.group(1, 0), 2);
        same("a whole row with one gone", desk.group(1, 37), 39);
        same("a whole row with one gone", desk.group(1, 38), -1);
        same("patched", desk.state(4), 38);
        same("seen no more", desk.slot(198), 0);
    }

    /** No call may throw, whatever it is given. */
    private static void oddArguments() {
        LightDesk desk = Checks.desk(RIG, "all @ 5; record 1; record 2;");
        int sum = 0;
        for (int a : ODD) {
            for (int b : ODD) {
                sum += desk.level(a, b) + desk.held(a, b) + desk.cue(a, b) + desk.unit(a, b) + desk.group(a, b) + desk.palette(a, b);
                sum += desk.sub(a, b) + desk.event(a, b) + desk.wave(a, b) + desk.wave(1, b) + desk.unit(1, b) + desk.cue(0, b);
                sum += desk.fader(a, b);
                for (int c : ODD) {
                    sum += desk.tracked(a, b, c) + desk.origin(a, b, c) + desk.change(a, b, c) + desk.change(1, b, c) + desk.tracked(1, b, c);
                }
            }
            sum += desk.end(a) + desk.tape(a) + desk.fault(a) + desk.jump(a) + desk.slot(a) + desk.shown(a) + desk.masters(a) + desk.park(a);
            sum += desk.state(a) + desk.grand(a) + desk.bump(a, true) + desk.run(a, true);
            if (a < 0 || a > 600) {
                same("advance " + a, desk.advance(a), -4);
            }
        }
        same("something was answered", sum != 0 ? 1 : 0, 1);
    }
}
