/** "Terms" 3: what the statements about cues, parks and events do where there is none, one, or all of something. */
public final class EdgesOfCuesTest {
    private static final Edges EDGES = new Edges("EdgesOfCuesTest");
    private static final String RIG = "patch 1 lamp at 1; patch 2 tint at 2; patch 3 head at 10; patch 40 spot at 20;";

    public static void main(String[] args) {
        tracking();
        cueThatComes();
        timesThatAreTold();
        recording();
        recordingOnly();
        recordingOnlyOfAll();
        updating();
        updatingInPlace();
        deleting();
        copying();
        blocking();
        unblocking();
        blindAndLive();
        parking();
        events();
        clearing();
        sneaking();
        doneAgain();
        leavingOthers();
        EDGES.finish();
    }

    private static String shown(LightDesk desk) {
        return Picture.of(desk).replaceAll("state 5 0: \\d+", "");
    }

    private static void cueIs(LightDesk desk, int i, int... due) {
        for (int what = 0; what < due.length; what++) {
            EDGES.same("cue " + i + " " + what, desk.cue(i, what), due[what]);
        }
    }

    private static void tracking() {
        EDGES.sentence("TRACKED: the change of the cue of the greatest number not above that one that has one there; none if there is none");
        LightDesk desk = Checks.desk(RIG);
        EDGES.same("without cues", desk.tracked(999, 3, 4), 500);
        EDGES.same("without cues", desk.origin(999, 3, 4), 0);
        EDGES.fine(desk, "3 pan 7; record 1; 3 pan 9; record 999; cue 2; cue 998; clear;");
        int[][] rows = {{0, 500, 0}, {1, 7, 1}, {2, 7, 1}, {998, 7, 1}, {999, 9, 999}};
        for (int[] row : rows) {
            EDGES.same("tracked in " + row[0], desk.tracked(row[0], 3, 4), row[1]);
            EDGES.same("origin in " + row[0], desk.origin(row[0], 3, 4), row[2]);
        }
        EDGES.fine(desk, "delete 1;");
        EDGES.same("ahead of the first", desk.tracked(998, 3, 4), 500);
        EDGES.same("ahead of the first", desk.origin(998, 3, 4), 0);
        EDGES.sentence("TRACKED: a change that is the level HOME is one");
        EDGES.fine(desk, "blind 998; 3 pan 500; live;");
        EDGES.same("origin", desk.origin(998, 3, 4), 998);
    }

    private static void cueThatComes() {
        EDGES.sentence("cue: if there is no cue of that number it comes (all times 0, no FOLLOW, no LINK, no changes)");
        LightDesk desk = Checks.desk(RIG, "cue 500;");
        cueIs(desk, 0, 500, 0, 0, 0, 0, -1, 0, -1);
        EDGES.fine(desk, "cue 999; cue 1; cue 501; cue 499;");
        int[] numbers = {1, 499, 500, 501, 999};
        for (int i = 0; i < numbers.length; i++) {
            cueIs(desk, i, numbers[i], 0, 0, 0, 0, -1, 0, -1);
        }
        EDGES.sentence("a cue that comes where another was has nothing of that");
        EDGES.fine(desk, "1 @ 5; record 500 up 1 down 2 move 3 delay 4 follow 5 link 6; delete 500; cue 500;");
        cueIs(desk, 2, 500, 0, 0, 0, 0, -1, 0, -1);
        EDGES.fine(desk, "record 500 up 1 follow 5 link 6; delete 500; record 500;");
        cueIs(desk, 2, 500, 0, 0, 0, 0, -1, 1, -1);
        EDGES.sentence("CUES by their numbers: thirty, told downwards");
        LightDesk full = new LightDesk();
        for (int i = 30; i >= 1; i--) {
            EDGES.fine(full, "cue " + i * 33 + " up " + i + ";");
        }
        for (int i = 0; i < 30; i++) {
            cueIs(full, i, (i + 1) * 33, i + 1);
        }
        EDGES.same("behind the thirtieth", full.cue(30, 0), -1);
    }

    private static void timesThatAreTold() {
        EDGES.sentence("the times and the LINK that are told are its; stay: no FOLLOW; loose: no LINK");
        LightDesk desk = Checks.desk(RIG, "cue 5 up 1 down 2 move 3 delay 4 follow 5 link 6;");
        cueIs(desk, 0, 5, 1, 2, 3, 4, 5, 0, 6);
        EDGES.fine(desk, "cue 5;");
        cueIs(desk, 0, 5, 1, 2, 3, 4, 5, 0, 6);
        EDGES.fine(desk, "cue 5 up 0 follow 0;");
        cueIs(desk, 0, 5, 0, 2, 3, 4, 0, 0, 6);
        EDGES.fine(desk, "cue 5 stay;");
        cueIs(desk, 0, 5, 0, 2, 3, 4, -1, 0, 6);
        EDGES.fine(desk, "cue 5 loose stay delay 0;");
        cueIs(desk, 0, 5, 0, 2, 3, 0, -1, 0, -1);
        EDGES.fine(desk, "cue 6 stay loose; 1 @ 5; record 7 stay loose; record 5 link 5 down 600; record 5 stay;");
        cueIs(desk, 0, 5, 0, 600, 3, 0, -1, 1, 5);
        cueIs(desk, 1, 6, 0, 0, 0, 0, -1, 0, -1);
        cueIs(desk, 2, 7, 0, 0, 0, 0, -1, 1, -1);
    }

    private static void recording() {
        EDGES.sentence("record: the programmer's values are its changes, where there are such (others stay). The programmer stays");
        LightDesk desk = Checks.desk(RIG, "palette 1 = red 5; 1 @ 0; 2 red from 1; 3 pan 500; record 5; clear; 1 @ 7; 40 iris 9; record 5;");
        EDGES.same("told again", desk.change(5, 1, 0), 7);
        EDGES.same("stays, FROM", desk.change(5, 2, 1), 2001);
        EDGES.same("stays, though HOME", desk.change(5, 3, 4), 500);
        EDGES.same("new", desk.change(5, 40, 7), 9);
        EDGES.same("changes", desk.cue(0, 6), 4);
        EDGES.same("the programmer", desk.state(7), 2);
        EDGES.fine(desk, "record 9; record 1;");
        EDGES.same("another one", desk.cue(2, 6), 2);
        EDGES.sentence("record with BLIND: the programmer's values, into the cue that is told");
        EDGES.fine(desk, "blind 9; 1 @ 11; record 1; live;");
        EDGES.same("the cue told", desk.change(1, 1, 0), 7);
        EDGES.same("BLIND's", desk.change(9, 1, 0), 11);
    }

    private static void recordingOnly() {
        EDGES.sentence("with only: for the cue of the next greater number: where the programmer has a value, and that cue has no change, "
            + "what is TRACKED there becomes its change (the level HOME, if it is none)");
        LightDesk desk = Checks.desk(RIG, "palette 1 = dim 5; 1 @ from 1; 2 red 100; record 10; clear; cue 20; 3 pan 0; record 30; clear; cue 40;",
            "1 @ 6; 2 red 200 green 200; 3 pan 300 tilt 300; record 20 only;");
        EDGES.same("the cue itself", desk.cue(1, 6), 5);
        EDGES.same("FROM, as it tracked", desk.change(30, 1, 0), 2001);
        EDGES.same("a level, as it tracked", desk.change(30, 2, 1), 100);
        EDGES.same("HOME", desk.change(30, 2, 2), 1000);
        EDGES.same("its own", desk.change(30, 3, 4), 0);
        EDGES.same("HOME", desk.change(30, 3, 5), 500);
        EDGES.same("no more than these", desk.cue(2, 6), 5);
        EDGES.same("only the next", desk.cue(3, 6), 0);
        EDGES.sentence("with only: the cue itself has had a change: the next keeps that");
        EDGES.fine(desk, "clear; blind 30; all release; live; 1 @ 8; record 20 only;");
        EDGES.same("what was TRACKED ahead of it", desk.change(30, 1, 0), 6);
        EDGES.sentence("with only: a cue that comes");
        EDGES.fine(desk, "clear; 40 @ 9; record 35 only;");
        EDGES.same("the next keeps HOME", desk.change(40, 40, 0), 0);
        EDGES.same("the one ahead of it stays", desk.change(30, 40, 0), -1);
        EDGES.sentence("with only: if there is one of a greater number");
        EDGES.fine(desk, "record 999 only; record 40 only;");
        EDGES.same("none behind it", desk.change(999, 40, 0), 9);
        EDGES.fine(desk, "clear; 40 wheel 9; record 999 only;");
        EDGES.same("none behind it", desk.change(40, 40, 6), -1);
        EDGES.same("none behind it", desk.change(999, 40, 6), 9);
    }

    private static void recordingOnlyOfAll() {
        EDGES.sentence("with only: HOME of each parameter that a kind has");
        LightDesk desk = Checks.desk("patch 1 spot at 1; patch 40 tint at 20; patch 9 roller at 30; cue 2; all @ 3; "
            + "1 pan 3 tilt 3 wheel 3 iris 3; 40 red 3 green 3 blue 3; 9 roll 3; record 1 only;");
        int[] units = {1, 40, 40, 40, 1, 1, 1, 1, 9};
        int[] home = {0, 1000, 1000, 1000, 500, 500, 0, 1000, 0};
        for (int parameter = 0; parameter < 9; parameter++) {
            EDGES.same("kept " + parameter, desk.change(2, units[parameter], parameter), home[parameter]);
            EDGES.same("recorded " + parameter, desk.change(1, units[parameter], parameter), 3);
        }
        EDGES.same("no more than these", desk.cue(1, 6), 3 + 4 + 3 + 1);
    }

    private static void updating() {
        EDGES.sentence("update: each value becomes the change there of the cue that is the ORIGIN in CURRENT; "
            + "where there is none, of the cue of the greatest number not above CURRENT. The programmer is empty then");
        LightDesk desk = Checks.desk(RIG,
            "palette 1 = dim 5; 1 @ 100; record 1; clear; 2 red 5; record 5; clear; cue 9; 1 @ 300; 3 pan 3; record 10; clear;");
        desk.jump(9);
        EDGES.fine(desk, "1 @ from 1; 2 red 6; 3 pan 8; update;");
        EDGES.same("the ORIGIN, FROM a palette", desk.change(1, 1, 0), 2001);
        EDGES.same("the ORIGIN", desk.change(5, 2, 1), 6);
        EDGES.same("without one, of CURRENT", desk.change(9, 3, 4), 8);
        EDGES.same("no other", desk.cue(2, 6), 1);
        EDGES.same("behind CURRENT", desk.change(10, 1, 0), 300);
        EDGES.same("behind CURRENT", desk.change(10, 3, 4), 3);
        EDGES.same("the programmer", desk.state(7), 0);
        EDGES.sentence("update: the cue CURRENT itself is the ORIGIN");
        desk.jump(10);
        EDGES.fine(desk, "1 @ 7; 3 pan 9; update;");
        EDGES.same("changed there", desk.change(10, 1, 0), 7);
        EDGES.same("not ahead of it", desk.change(9, 3, 4), 8);
        EDGES.sentence("update, with BLIND: the programmer's values; BLIND stays");
        EDGES.fine(desk, "1 @ 8; blind 1; 2 @ 9; update;");
        EDGES.same("changed there", desk.change(10, 1, 0), 8);
        EDGES.same("BLIND's own", desk.change(1, 2, 0), 9);
        EDGES.same("BLIND", desk.state(6), 1);
        EDGES.fine(desk, "live;");
        EDGES.sentence("update: CURRENT's cue is gone");
        EDGES.fine(desk, "delete 10; 40 @ 4; update;");
        EDGES.same("the greatest not above CURRENT", desk.change(9, 40, 0), 4);
    }

    private static void updatingInPlace() {
        EDGES.sentence("update: of the first cue, of all values");
        LightDesk desk = Checks.desk(RIG, "cue 1; cue 2;");
        desk.go();
        EDGES.fine(desk, "all home;");
        int values = desk.state(7);
        EDGES.fine(desk, "update;");
        EDGES.same("changes", desk.cue(0, 6), values);
        EDGES.same("of the next", desk.cue(1, 6), 0);
        EDGES.same("the first unit", desk.change(1, 1, 0), 0);
        EDGES.same("the last unit", desk.change(1, 40, 7), 1000);
    }

    private static void deleting() {
        EDGES.sentence("delete: the cue is gone (BLIND is none, if it was it)");
        LightDesk desk = Checks.desk(RIG, "cue 1; cue 5 link 1; cue 9 link 5; event 1 = 5 cue 5; blind 5;");
        EDGES.fine(desk, "delete 1;");
        EDGES.same("another one's BLIND", desk.state(6), 5);
        EDGES.fine(desk, "delete 5;");
        EDGES.same("its BLIND", desk.state(6), -1);
        EDGES.same("cues", desk.state(3), 1);
        EDGES.same("the one behind it", desk.cue(0, 0), 9);
        EDGES.same("a LINK to it stays", desk.cue(0, 7), 5);
        EDGES.same("an EVENT of it stays", desk.event(1, 1), 5);
        EDGES.fine(desk, "delete 9;");
        EDGES.same("the last", desk.state(3), 0);
        EDGES.same("none", desk.cue(0, 0), -1);
        EDGES.sentence("values come into the programmer, once BLIND's cue is gone");
        EDGES.fine(desk, "cue 3; blind 3; delete 3; 1 @ 5;");
        EDGES.same("held", desk.held(1, 0), 5);
        EDGES.sentence("CURRENT stays, whatever becomes of the cue");
        EDGES.fine(desk, "cue 3;");
        desk.jump(3);
        EDGES.fine(desk, "delete 3;");
        EDGES.same("CURRENT", desk.state(2), 3);
    }

    private static void copying() {
        EDGES.sentence("copy: a new cue with the same times, LINK and changes");
        LightDesk desk = Checks.desk(RIG,
            "palette 1 = dim 5; all home; 1 @ from 1; record 5 up 1 down 2 move 3 delay 4 follow 5 link 999; clear; cue 7;");
        int changes = desk.cue(0, 6);
        EDGES.fine(desk, "copy 5 to 1; copy 5 to 999; copy 5 to 6; copy 7 to 8;");
        int[] places = {0, 1, 2, 5};
        int[] numbers = {1, 5, 6, 999};
        for (int i = 0; i < 4; i++) {
            cueIs(desk, places[i], numbers[i], 1, 2, 3, 4, 5, changes, 999);
            EDGES.same("FROM", desk.change(numbers[i], 1, 0), 2001);
            EDGES.same("the last unit's", desk.change(numbers[i], 40, 7), 1000);
        }
        cueIs(desk, 4, 8, 0, 0, 0, 0, -1, 0, -1);
        EDGES.fine(desk, "blind 1; 1 @ 9; live; cue 6 up 99;");
        EDGES.same("the first stays", desk.change(5, 1, 0), 2001);
        EDGES.same("the first stays", desk.cue(1, 1), 1);
    }

    private static void blocking() {
        EDGES.sentence("block: wherever something is TRACKED in the cue and it has no change, that is its change now");
        LightDesk desk = Checks.desk(RIG,
            "palette 1 = dim 5; 1 @ from 1; 2 red 0; record 1; clear; 2 red 7 green 1000; record 5; clear; cue 9; 3 pan 4; record 10; clear;");
        EDGES.fine(desk, "block 9;");
        EDGES.same("FROM", desk.change(9, 1, 0), 2001);
        EDGES.same("the latest", desk.change(9, 2, 1), 7);
        EDGES.same("HOME that is TRACKED", desk.change(9, 2, 2), 1000);
        EDGES.same("nothing TRACKED", desk.change(9, 3, 4), -1);
        EDGES.same("changes", desk.cue(2, 6), 3);
        EDGES.fine(desk, "block 9; block 1;");
        EDGES.same("again", desk.cue(2, 6), 3);
        EDGES.same("of the first", desk.cue(0, 6), 2);
        EDGES.fine(desk, "block 5;");
        EDGES.same("its own stays", desk.change(5, 2, 1), 7);
        EDGES.same("and that of the first", desk.change(5, 1, 0), 2001);
        LightDesk empty = Checks.desk(RIG, "cue 1; cue 2; block 1; block 2; unblock 1; unblock 2;");
        EDGES.same("of nothing", empty.cue(0, 6) + empty.cue(1, 6), 0);
    }

    private static void unblocking() {
        EDGES.sentence("unblock: each change that is the same VALUE as what is TRACKED in the cue of the next lesser number is gone (if there is "
            + "one)");
        LightDesk desk = Checks.desk(RIG,
            "palette 1 = dim 5 red 5; palette 2 = dim 5; 1 @ 5; 2 @ from 1 red 0; 3 @ 0; 40 @ from 1; record 1; clear; cue 2;",
            "1 @ 5; 2 @ from 1 red 1; 3 @ 0 pan 500; 40 @ from 2; record 3; clear;");
        EDGES.fine(desk, "unblock 1;");
        EDGES.same("no lesser one: all stay", desk.cue(0, 6), 5);
        EDGES.fine(desk, "unblock 3;");
        EDGES.same("the same level, TRACKED over a cue", desk.change(3, 1, 0), -1);
        EDGES.same("the same palette", desk.change(3, 2, 0), -1);
        EDGES.same("another level", desk.change(3, 2, 1), 1);
        EDGES.same("the same level 0", desk.change(3, 3, 0), -1);
        EDGES.same("HOME is not the same as none", desk.change(3, 3, 4), 500);
        EDGES.same("FROM another palette of the same level", desk.change(3, 40, 0), 2002);
        EDGES.sentence("FROM a palette is the same only as FROM that palette");
        EDGES.fine(desk, "blind 3; 1 @ from 1; 2 @ 5; live; unblock 3;");
        EDGES.same("FROM, where a level is TRACKED", desk.change(3, 1, 0), 2001);
        EDGES.same("a level, where FROM is TRACKED", desk.change(3, 2, 0), 5);
        EDGES.sentence("unblock: the first cue's changes stay, even those that are HOME");
        EDGES.fine(desk, "blind 1; 3 pan 500; live; unblock 1;");
        EDGES.same("HOME", desk.change(1, 3, 4), 500);
    }

    private static void blindAndLive() {
        EDGES.sentence("blind: BLIND is that cue. live: none");
        LightDesk desk = Checks.desk(RIG, "live;");
        EDGES.same("at first", desk.state(6), -1);
        EDGES.fine(desk, "cue 1; cue 999; blind 1;");
        EDGES.same("1", desk.state(6), 1);
        EDGES.fine(desk, "blind 999; blind 999;");
        EDGES.same("999", desk.state(6), 999);
        EDGES.fine(desk, "live; live;");
        EDGES.same("live", desk.state(6), -1);
        EDGES.sentence("BLIND stays as cues are taken");
        EDGES.fine(desk, "blind 1;");
        desk.jump(999);
        EDGES.same("1", desk.state(6), 1);
    }

    private static void parking() {
        EDGES.sentence("park: the slot has that byte; unpark: none (all: no slot has one)");
        LightDesk desk = Checks.desk(RIG, "unpark 1; unpark all;");
        EDGES.fine(desk, "park 1 @ 0; park 200 @ 255; park 100 @ 1; park 100 @ 2;");
        EDGES.same("0 is a byte", desk.park(1), 0);
        EDGES.same("200", desk.park(200), 255);
        EDGES.same("again", desk.park(100), 2);
        EDGES.same("beside it", desk.park(99) + desk.park(101), -2);
        EDGES.fine(desk, "unpark 100; unpark 100;");
        EDGES.same("unpark", desk.park(100), -1);
        EDGES.same("others stay", desk.park(200), 255);
        EDGES.fine(desk, "unpark all;");
        EDGES.same("all", desk.park(1) + desk.park(200), -2);
    }

    private static void events() {
        EDGES.sentence("event: it is that, or none");
        LightDesk desk = Checks.desk("event 1 = 5 cue 7; event 1 = 6 cue 8; event 10 = 0 cue 1; event 9 = 5 cue 1; event 9 = none; event 8 = none;");
        EDGES.same("again", desk.event(1, 0), 6);
        EDGES.same("again", desk.event(1, 1), 8);
        EDGES.same("a time 0 is one", desk.event(10, 0), 0);
        EDGES.same("none", desk.event(9, 0), -1);
        EDGES.same("none", desk.event(9, 1), -1);
        EDGES.same("none", desk.event(8, 1), -1);
    }

    private static void clearing() {
        EDGES.sentence("The programmer is empty then; so clear makes it");
        LightDesk desk = Checks.desk(RIG, "clear;");
        EDGES.same("of nothing", desk.state(7), 0);
        EDGES.fine(desk, "all home; cue 1; blind 1; 1 @ 5; clear;");
        EDGES.same("of all", desk.state(7), 0);
        EDGES.same("BLIND stays", desk.state(6), 1);
        EDGES.same("BLIND's changes stay", desk.change(1, 1, 0), 5);
        EDGES.same("the first", desk.held(1, 0), -1);
        EDGES.same("the last", desk.held(40, 7), -1);
    }

    private static void sneaking() {
        EDGES.sentence("sneak: a FADE to its GOAL, from that value's LEVEL, its begin the FADE CLOCK, in that time; then the programmer is empty");
        LightDesk desk = Checks.desk(RIG, "1 @ 1000; record 1; clear;");
        desk.go();
        desk.advance(7);
        EDGES.fine(desk, "1 @ 0; 40 iris 0; sneak 600;");
        EDGES.same("the programmer", desk.state(7), 0);
        EDGES.same("at the begin", desk.level(1, 0), 0);
        EDGES.same("two fade", desk.state(8), 2);
        desk.advance(599);
        EDGES.same("a tenth ahead of the end", desk.level(1, 0), 998);
        EDGES.same("a tenth ahead of the end", desk.level(40, 7), 998);
        desk.advance(1);
        EDGES.same("at the end", desk.level(1, 0), 1000);
        EDGES.same("none fades", desk.state(8), 0);
        EDGES.fine(desk, "1 @ 0; sneak 0;");
        EDGES.same("in no time", desk.level(1, 0), 1000);
        EDGES.fine(desk, "1 @ 0; sneak 1;");
        EDGES.same("in one tenth", desk.level(1, 0), 0);
        desk.advance(1);
        EDGES.same("in one tenth", desk.level(1, 0), 1000);
        EDGES.sentence("sneak: a value FROM a palette, HOME if it has none");
        EDGES.fine(desk, "1 @ from 1; 2 red from 1; sneak 10;");
        EDGES.same("HOME of dim", desk.level(1, 0), 0);
        EDGES.same("HOME of red is the GOAL", desk.state(8), 1);
        EDGES.fine(desk, "palette 12 = iris 100 wheel 300; 40 iris from 12 wheel from 12 tilt from 12; sneak 10;");
        EDGES.same("iris of the palette", desk.level(40, 7), 100);
        EDGES.same("wheel of the palette", desk.level(40, 6), 300);
        EDGES.same("HOME of tilt", desk.level(40, 5), 500);
        EDGES.sentence("sneak over a fade: from the value, in the new time");
        desk.advance(5);
        EDGES.fine(desk, "1 @ 100; sneak 9;");
        desk.advance(1);
        EDGES.same("a ninth", desk.level(1, 0), 200);
        EDGES.sentence("sneak with BLIND: the programmer's");
        EDGES.fine(desk, "1 @ 5;");
        EDGES.fine(desk, "blind 1; 1 @ 1000; sneak 10; live;");
        EDGES.same("from the programmer's", desk.level(1, 0), 5);
    }

    /** Statements that tell what there is already change nothing. */
    private static void doneAgain() {
        EDGES.sentence("a statement done again changes nothing");
        String all = "group 1 = 40 + 1; group 12 = 2; palette 1 = dim 5 roll 6; sub 1 with 1 + 40 @ 800; sub 8 with 2 @ 900; sub 8 masters;"
            + "wave 1 = saw dim size 100 rate 7 spread 500 on 1 + 40; cue 7 up 3 follow 9 link 8; all @ 100 thru 900; 2 red from 1; record 5; "
            + "record 9 only;"
            + "blind 7; 3 pan 8; block 9; block 7; unblock 7; park 5 @ 77; event 1 = 9999 cue 5; live; unpark 9; event 2 = none; sub 2 none; "
            + "palette 2 = none;";
        LightDesk desk = Checks.desk(RIG, all);
        String before = shown(desk);
        String[] again = {"group 1 = 40 + 1;", "group 1 = group 1;", "palette 1 = roll 6 dim 5;", "sub 1 with 40 + 1 @ 800;", "sub 8 masters;",
            "sub 1 adds;",
            "wave 1 = saw dim size 100 rate 7 spread 500 on 1 + 40;", "cue 7;", "cue 7 up 3;", "record 5;", "record 9 only;", "block 9;", "block 5;",
            "unblock 5;",
            "live;", "blind 5; live;", "park 5 @ 77;", "unpark 9;", "event 1 = 9999 cue 5;", "event 2 = none;", "sub 2 none;", "palette 2 = none;",
            "wave 2 = none;",
            "all @ 100 thru 900;", "2 red from 1;", "2 wheel 5;", "1 - 1 + 1 @ + 0;", "blind 7; 3 pan 8; live;", "unblock 7;",
            "cue 7 follow 9; cue 7 link 8;"};
        for (String statement : again) {
            EDGES.fine(desk, statement);
            EDGES.same("changed by " + statement, Picture.difference(before, shown(desk)), "");
        }
    }

    /** Nothing of what no text tells is as it was at first, behind this. */
    private static void playAway(LightDesk desk) {
        desk.jump(5);
        desk.advance(20);
        desk.jump(9);
        desk.advance(3);
        desk.hold(true);
        desk.advance(4);
        desk.grand(900);
        for (int s = 1; s <= 8; s++) {
            desk.fader(s, 100 * s);
            desk.bump(s, s % 2 == 0);
        }
        for (int w = 1; w <= 4; w++) {
            desk.run(w, true);
        }
    }

    private static void leavingOthers() {
        EDGES.sentence("a statement changes what it tells of, and nothing else");
        LightDesk desk = Checks.desk(RIG, "all @ 100 thru 900; 2 red 7; record 5 up 1; 1 @ 100; record 9 move 50; clear; cue 12 link 5; blind 9; 3 pan 8;",
            "group 1 = 2; palette 1 = red 5; sub 1 with 1 @ 7; sub 2 masters; wave 1 = saw dim size 9 rate 9 spread 9 on 1; park 7 @ 7; "
            + "event 1 = 700 cue 9;");
        playAway(desk);
        EDGES.same("one fades", desk.state(8), 1);
        String before = shown(desk);
        String[] thereAndBack = {"copy 5 to 6; delete 6;", "copy 9 to 1; delete 1;", "copy 12 to 30; delete 30;", "cue 30 up 7; delete 30;",
            "park 5 @ 5; unpark 5;", "event 3 = 5 cue 5; event 3 = none;",
            "palette 3 = dim 5; palette 3 = none;", "sub 3 with all @ 5; sub 3 none;", "sub 3 masters; sub 3 adds;",
            "wave 3 = saw dim size 1 rate 1 spread 1 on all; wave 3 = none;",
            "live; blind 9;", "blind 5; blind 9;", "patch 4 lamp at 100; unpatch 4;", "live; 1 @ 5; clear; blind 9;",
            "live; 1 @ 5; 1 release; blind 9;",
            "live; 1 home; sneak 0; blind 9;", "unpark all; park 7 @ 7;", "cue 5 up 2; cue 5 up 1;",
            "unblock 5; block 5;"};
        for (String text : thereAndBack) {
            EDGES.fine(desk, text);
            EDGES.same("changed by " + text, Picture.difference(before, shown(desk)), "");
        }
        EDGES.sentence("unblock and block change that cue alone");
        EDGES.fine(desk, "block 12;");
        int blocked = desk.cue(2, 6);
        EDGES.same("the same as are TRACKED", blocked, 6);
        EDGES.fine(desk, "unblock 12;");
        EDGES.same("the first cue and the second", Picture.difference(before, shown(desk)), "");
    }
}
