/**
 * "Promise 1" to "Promise 35": the least and the greatest argument of each call, what it answers beyond them, and that a
 * refused call changes nothing.
 */
public final class EdgesOfCallsTest {
    private static final Edges EDGES = new Edges("EdgesOfCallsTest");
    private static final int LEAST = Integer.MIN_VALUE;
    private static final int GREATEST = Integer.MAX_VALUE;
    private static final String RIG = "patch 1 lamp at 1; patch 2 tint at 2; patch 3 head at 10; patch 39 roller at 191; "
        + "patch 40 spot at 193 limit 900 curve 1 invert swap;";

    public static void main(String[] args) {
        newObject();
        feeding();
        ending();
        entering();
        faults();
        undoing();
        undoingEight();
        undoingFaultyTexts();
        tapeBytes();
        goingAndBack();
        jumping();
        holdingAndBlack();
        advancing();
        faders();
        bumpsAndRuns();
        grand();
        slots();
        levels();
        shown();
        trackedAndOrigin();
        changes();
        held();
        cues();
        units();
        groups();
        palettes();
        subsAndMasters();
        parks();
        events();
        waves();
        states();
        allPlacesTaken();
        refusedInAFade();
        EDGES.finish();
    }

    /** A desk that has something of all, with fades under way. */
    private static LightDesk busy() {
        LightDesk desk = Checks.desk(RIG,
            "group 1 = 40 + 1; group 12 = 2; palette 1 = dim 5 roll 6; palette 12 = red 7; sub 1 with 1 + 40 @ 800; sub 8 with 2 @ 900; "
            + "sub 8 masters;",
            "wave 1 = saw dim size 100 rate 7 spread 500 on 1 + 40; wave 4 = peak roll size 50 rate 9 spread 0 on 39;",
            "all @ 900 pan 900; 39 roll 500; record 10 up 50 down 40 move 30 delay 5 follow 200 link 30; clear; 1 @ 100; 2 red from 12; "
            + "record 20; record 999 up 9; clear;",
            "cue 30; blind 20; park 5 @ 77; park 200 @ 0; event 1 = 9999 cue 10; event 10 = 400 cue 999; live; 3 @ 44; blind 999;");
        desk.fader(1, 300);
        desk.fader(8, 400);
        desk.bump(8, true);
        desk.run(1, true);
        desk.grand(950);
        desk.go();
        desk.advance(25);
        Checks.put(desk, "live; 1 @ 5");
        return desk;
    }

    private static void newObject() {
        EDGES.sentence("Promise 1: Nothing is patched, the show, the tape empty; all as told at first");
        LightDesk desk = new LightDesk();
        for (int i = 1; i <= 12; i++) {
            for (int what = 0; what <= 45; what++) {
                EDGES.same("groups, waves, cues", desk.group(i, what) + desk.wave(i, what) + desk.cue(i - 1, what), -3);
            }
            for (int what = 0; what <= 8; what++) {
                EDGES.same("palettes, events", desk.palette(i, what) + desk.event(i, what), -2);
            }
        }
        for (int unit = 1; unit <= 40; unit++) {
            for (int what = 0; what <= 8; what++) {
                EDGES.same("units, values, subs", desk.unit(unit, what) + desk.held(unit, what) + desk.sub(what, unit), -3);
                EDGES.same("levels, shown", desk.level(unit, what) + desk.shown(unit), -4);
                EDGES.same("origins", desk.origin(999, unit, what), 0);
            }
        }
        for (int k = 1; k <= 200; k++) {
            EDGES.same("slots", desk.slot(k), 0);
            EDGES.same("parks", desk.park(k), -1);
        }
        Checks.text(desk, RIG);
        EDGES.same("another one has nothing of it", new LightDesk().state(4), 0);
        LightDesk fresh = new LightDesk();
        EDGES.refused(fresh, "go()", fresh::go, -1);
        EDGES.refused(fresh, "back()", fresh::back, -1);
        EDGES.refused(fresh, "jump(1)", () -> fresh.jump(1), -2);
        EDGES.refused(fresh, "undo()", fresh::undo, -1);
        EDGES.refused(fresh, "save()", fresh::save, 0);
        EDGES.refused(fresh, "enter()", fresh::enter, 0);
        EDGES.refused(fresh, "end(0)", () -> fresh.end(0), 0);
        EDGES.refused(fresh, "end(1)", () -> fresh.end(1), -1);
        EDGES.refused(fresh, "tape(0)", () -> fresh.tape(0), -1);
        EDGES.refused(fresh, "fault(0)", () -> fresh.fault(0), 0);
        EDGES.refused(fresh, "fault(1)", () -> fresh.fault(1), -1);
        EDGES.refused(fresh, "advance(0)", () -> fresh.advance(0), 0);
        EDGES.refused(fresh, "cue(0, 0)", () -> fresh.cue(0, 0), -1);
        EDGES.refused(fresh, "unit(1, 0)", () -> fresh.unit(1, 0), -1);
        EDGES.refused(fresh, "unit(1, 6)", () -> fresh.unit(1, 6), -1);
        EDGES.refused(fresh, "shown(1)", () -> fresh.shown(1), -2);
        EDGES.refused(fresh, "slot(1)", () -> fresh.slot(1), 0);
    }

    private static void feeding() {
        EDGES.sentence("Promise 2: Twenty bytes come behind the tape, of each number the highest first");
        LightDesk desk = new LightDesk();
        int[] numbers = {0, -1, LEAST, GREATEST, 0x01020304, 0xfffefdfc, 0x80818283, 255, 256, 65536};
        int length = 0;
        for (int number : numbers) {
            for (int place = 0; place < 5; place++) {
                length += 20;
                int[] five = new int[5];
                five[place] = number;
                EDGES.same("how many", desk.feed(five[0], five[1], five[2], five[3], five[4]), length);
                for (int i = 0; i < 20; i++) {
                    EDGES.same("byte " + i, desk.tape(length - 20 + i), i / 4 == place ? number >>> 24 - i % 4 * 8 & 255 : 0);
                }
            }
        }
        EDGES.sentence("Promise 2: NONE, and nothing comes, if it would have more than 6000");
        desk.end(0);
        for (int i = 1; i <= 300; i++) {
            EDGES.same("how many", desk.feed(i, i, i, i, i), i * 20);
        }
        EDGES.refused(desk, "feed at 6000", () -> desk.feed(7, 7, 7, 7, 7), -1);
        desk.end(5981);
        EDGES.refused(desk, "feed at 5981", () -> desk.feed(7, 7, 7, 7, 7), -1);
        desk.end(5980);
        EDGES.same("feed at 5980", desk.feed(7, 7, 7, 7, 7), 6000);
    }

    private static void ending() {
        EDGES.sentence("Promise 3: The tape has its first n bytes alone: n. NONE if it has not so many, or n is below 0");
        LightDesk desk = busy();
        int length = desk.state(9);
        for (int n : new int[] {-1, LEAST, length + 1, 6000, 6001, GREATEST}) {
            EDGES.refused(desk, "end(" + n + ")", () -> desk.end(n), -1);
        }
        EDGES.refused(desk, "end of all", () -> desk.end(length), length);
        EDGES.same("one less", desk.end(length - 1), length - 1);
        EDGES.refused(desk, "end of one that was", () -> desk.end(length), -1);
        EDGES.same("one", desk.end(1), 1);
        EDGES.same("its byte", desk.tape(0), 'l');
        EDGES.same("none", desk.end(0), 0);
        EDGES.same("none again", desk.end(0), 0);
        EDGES.refused(desk, "end(1)", () -> desk.end(1), -1);
    }

    private static void entering() {
        EDGES.sentence("Promise 4: The tape (empty then) is a TEXT: how many statements were done");
        LightDesk desk = Checks.desk("patch 1 lamp at 1;");
        String[] texts = {"", " ", ";", "live", "live;", "live;;", "live;live;live;", "live;1 @ 1001;live;", "1 @ 1001;live;"};
        int[] done = {0, 0, 0, 0, 1, 1, 3, 1, 0};
        for (int i = 0; i < texts.length; i++) {
            EDGES.same("done of " + texts[i], Checks.text(desk, texts[i]), done[i]);
            EDGES.same("the tape behind " + texts[i], desk.state(9), 0);
        }
    }

    private static void faults() {
        EDGES.sentence("Promise 5: Of the latest enter(), what 0: the FAULT, 0 without one; 1: its place, NONE without; NONE for another what");
        LightDesk desk = Checks.desk("patch 1 lamp at 1;");
        Checks.text(desk, "live; 1 @ 1001;");
        int[] whats = {-1, 2, 3, LEAST, GREATEST};
        EDGES.refused(desk, "fault(0)", () -> desk.fault(0), 3);
        EDGES.refused(desk, "fault(1)", () -> desk.fault(1), 10);
        for (int what : whats) {
            EDGES.refused(desk, "fault(" + what + ")", () -> desk.fault(what), -1);
        }
        Checks.put(desk, "live;");
        EDGES.same("feed and end leave it", desk.fault(0), 3);
        desk.undo();
        desk.save();
        desk.go();
        desk.advance(1);
        EDGES.same("undo, save and time leave it", desk.fault(0), 3);
        EDGES.same("undo, save and time leave it", desk.fault(1), 10);
        desk.end(0);
        desk.enter();
        EDGES.same("the latest enter, of nothing", desk.fault(0), 0);
        EDGES.same("the latest enter, of nothing", desk.fault(1), -1);
        for (int what : whats) {
            EDGES.same("fault(" + what + ")", desk.fault(what), -1);
        }
        Checks.text(desk, "#");
        EDGES.same("a place 0", desk.fault(1), 0);
    }

    private static void undoing() {
        EDGES.sentence("Promise 6: The show is as it was ahead of the latest text of which a statement was done and that was not undone: 1. NONE "
            + "if there is none such");
        LightDesk desk = new LightDesk();
        EDGES.refused(desk, "undo of none", desk::undo, -1);
        Checks.text(desk, "");
        Checks.text(desk, "#");
        Checks.text(desk, "1 @ 5; live;");
        EDGES.same("none of which one was done", desk.state(5), 0);
        EDGES.refused(desk, "undo of none", desk::undo, -1);
        EDGES.fine(desk, "live;");
        EDGES.same("one that changes nothing is one", desk.state(5), 1);
        EDGES.same("undo", desk.undo(), 1);
        EDGES.refused(desk, "undo of none", desk::undo, -1);
        EDGES.fine(desk, RIG);
        String rig = Picture.of(desk);
        EDGES.fine(desk, "1 @ 5; cue 5; blind 5; 1 @ 7; group 1 = 1; palette 1 = dim 5; sub 1 masters; sub 1 with 1 @ 5; park 1 @ 5; "
            + "event 1 = 5 cue 5;");
        EDGES.fine(desk, "wave 1 = saw dim size 1 rate 1 spread 1 on 1; unpatch 2; clear; live;");
        EDGES.same("undo", desk.undo(), 1);
        EDGES.same("the programmer", desk.held(1, 0), 5);
        EDGES.same("BLIND", desk.state(6), 5);
        EDGES.same("the patch", desk.unit(2, 0), 4);
        EDGES.same("waves", desk.wave(1, 0), -1);
        EDGES.same("undo", desk.undo(), 1);
        EDGES.same("the show", Picture.difference(rig, Picture.of(desk)), "");
        EDGES.same("undo", desk.undo(), 1);
        EDGES.same("the show", Picture.difference(Picture.of(desk), Picture.of(new LightDesk())), "");
        EDGES.refused(desk, "undo of none", desk::undo, -1);
    }

    private static void undoingEight() {
        EDGES.sentence("Promise 6: NONE if it was followed by eight others (not undone)");
        LightDesk desk = new LightDesk();
        for (int i = 1; i <= 8; i++) {
            EDGES.fine(desk, "park " + i + " @ 1;");
            EDGES.same("texts that can be undone", desk.state(5), i);
        }
        EDGES.fine(desk, "park 9 @ 1;");
        EDGES.same("eight, not nine", desk.state(5), 8);
        for (int i = 9; i >= 2; i--) {
            EDGES.same("undo", desk.undo(), 1);
            EDGES.same("undone", desk.park(i), -1);
            EDGES.same("not undone", desk.park(i - 1), 1);
            EDGES.same("texts that can be undone", desk.state(5), i - 2);
        }
        EDGES.refused(desk, "undo of the one followed by eight", desk::undo, -1);
        EDGES.same("it stands", desk.park(1), 1);
        EDGES.sentence("Promise 6: those that were undone count not among the eight");
        LightDesk other = new LightDesk();
        EDGES.fine(other, "park 1 @ 1;");
        for (int i = 2; i <= 20; i++) {
            EDGES.fine(other, "park 2 @ " + i + ";");
            EDGES.same("undo", other.undo(), 1);
        }
        EDGES.same("one is left", other.state(5), 1);
        for (int i = 2; i <= 8; i++) {
            EDGES.fine(other, "park " + i + " @ 1;");
        }
        for (int i = 8; i >= 1; i--) {
            EDGES.same("undo", other.undo(), 1);
            EDGES.same("undone", other.park(i), -1);
        }
        EDGES.refused(other, "undo of none", other::undo, -1);
        EDGES.sentence("Promise 6: a text of which none was done counts not among the eight");
        EDGES.fine(other, "park 1 @ 1;");
        for (int i = 0; i < 9; i++) {
            Checks.text(other, "park 0 @ 1;");
            Checks.text(other, "");
        }
        EDGES.same("undo", other.undo(), 1);
        EDGES.same("undone", other.park(1), -1);
        EDGES.sentence("Promise 6: a text behind an undo is the latest");
        EDGES.fine(other, "park 1 @ 1;");
        EDGES.fine(other, "park 2 @ 1;");
        other.undo();
        EDGES.fine(other, "park 3 @ 1;");
        EDGES.same("texts that can be undone", other.state(5), 2);
        other.undo();
        EDGES.same("the latest", other.park(3), -1);
        EDGES.same("the one ahead of it", other.park(1), 1);
        EDGES.same("what was undone stays so", other.park(2), -1);
    }

    private static void undoingFaultyTexts() {
        EDGES.sentence("Promise 6: a text with a FAULT, of which a statement was done");
        LightDesk desk = Checks.desk(RIG);
        String before = Picture.of(desk);
        EDGES.same("done", Checks.text(desk, "1 @ 5; park 1 @ 5; park 0 @ 5; park 2 @ 5;"), 2);
        EDGES.same("undo", desk.undo(), 1);
        EDGES.same("the show", Picture.difference(before, Picture.of(desk)), "");
        EDGES.sentence("Promise 6: undo() leaves what is not the show");
        LightDesk busy = busy();
        busy.hold(true);
        int[] due = {busy.state(0), busy.state(1), busy.state(2)};
        String tape = Checks.tape(busy);
        EDGES.same("undo", busy.undo(), 1);
        for (int what = 0; what <= 2; what++) {
            EDGES.same("state " + what, busy.state(what), due[what]);
        }
        EDGES.same("the tape", Checks.tape(busy), tape);
        EDGES.same("a FADER", busy.fader(1, 0), 300);
        EDGES.same("a BUMP", busy.bump(8, false), 1);
        EDGES.same("GRAND", busy.grand(0), 950);
        EDGES.same("RUNS", busy.run(1, false), 1);
        EDGES.same("HOLD", busy.hold(false) ? 1 : 0, 1);
    }

    private static void tapeBytes() {
        EDGES.sentence("Promise 8: Byte i of the tape; NONE");
        LightDesk desk = busy();
        int length = desk.state(9);
        EDGES.refused(desk, "tape(0)", () -> desk.tape(0), 'l');
        EDGES.refused(desk, "the last", () -> desk.tape(length - 1), '5');
        for (int i : new int[] {-1, LEAST, length, length + 1, 5999, 6000, GREATEST}) {
            EDGES.refused(desk, "tape(" + i + ")", () -> desk.tape(i), -1);
        }
    }

    private static void goingAndBack() {
        EDGES.sentence("Promise 9: CURRENT then. NONE if there is no NEXT");
        LightDesk desk = Checks.desk(RIG, "1 @ 500; record 5 up 9; clear; cue 9;");
        EDGES.refused(desk, "back() at first", desk::back, -1);
        EDGES.same("go", desk.go(), 5);
        desk.advance(3);
        EDGES.same("go", desk.go(), 9);
        EDGES.refused(desk, "go() at the last", desk::go, -1);
        desk.advance(1);
        EDGES.same("the fade goes on", desk.level(1, 0), 500 * 4 / 9);
        EDGES.sentence("Promise 10: CURRENT then. NONE if there is no cue of a lesser number");
        EDGES.same("back", desk.back(), 5);
        EDGES.refused(desk, "back() at the first", desk::back, -1);
        desk.advance(1);
        EDGES.same("the fade goes on", desk.level(1, 0), 500 * 5 / 9);
    }

    private static void jumping() {
        EDGES.sentence("Promise 11: Cue c is taken: CURRENT then. -2: there is none such");
        LightDesk desk = busy();
        for (int c : new int[] {0, -1, 1, 9, 11, 998, 1000, LEAST, GREATEST}) {
            EDGES.refused(desk, "jump(" + c + ")", () -> desk.jump(c), -2);
        }
        EDGES.same("jump(10)", desk.jump(10), 10);
        EDGES.same("jump(999)", desk.jump(999), 999);
        EDGES.fine(Checks.desk("cue 1;"), "cue 1;");
        EDGES.same("jump(1)", Checks.desk("cue 1;").jump(1), 1);
        EDGES.fine(desk, "delete 999;");
        EDGES.refused(desk, "jump to one that is gone", () -> desk.jump(999), -2);
    }

    private static void holdingAndBlack() {
        EDGES.sentence("Promise 12: HOLD: what it was; Promise 17: BLACK: what it was");
        LightDesk desk = busy();
        boolean[] sets = {true, true, false, false, true, false};
        boolean was = false;
        for (boolean on : sets) {
            EDGES.same("hold", desk.hold(on) ? 1 : 0, was ? 1 : 0);
            EDGES.same("black", desk.black(on) ? 1 : 0, was ? 1 : 0);
            was = on;
        }
    }

    private static void advancing() {
        EDGES.sentence("Promise 13: n tenths go, 0 .. 600: the CLOCK. -4: another n");
        LightDesk desk = busy();
        for (int n : new int[] {-1, -600, 601, 6000, LEAST, GREATEST}) {
            EDGES.refused(desk, "advance(" + n + ")", () -> desk.advance(n), -4);
        }
        EDGES.refused(desk, "advance(0)", () -> desk.advance(0), 25);
        EDGES.same("advance(1)", desk.advance(1), 26);
        EDGES.same("advance(600)", desk.advance(600), 626);
        EDGES.same("the FADE CLOCK", desk.state(1), 626);
        EDGES.sentence("Promise 13: n tenths at once are as n times one");
        LightDesk one = busy();
        LightDesk many = busy();
        one.advance(600);
        for (int i = 0; i < 600; i++) {
            many.advance(1);
        }
        EDGES.same("the picture", Picture.difference(Picture.of(one), Picture.of(many)), "");
    }

    private static void faders() {
        EDGES.sentence("Promise 14: The FADER of sub s: what it was. -2: no such sub; -4: no level");
        LightDesk desk = busy();
        for (int s : new int[] {0, -1, 9, LEAST, GREATEST}) {
            EDGES.refused(desk, "fader(" + s + ", 5)", () -> desk.fader(s, 5), -2);
            EDGES.refused(desk, "fader(" + s + ", 1001)", () -> desk.fader(s, 1001), -2);
        }
        for (int level : new int[] {-1, 1001, LEAST, GREATEST}) {
            EDGES.refused(desk, "fader(1, " + level + ")", () -> desk.fader(1, level), -4);
            EDGES.refused(desk, "fader(8, " + level + ")", () -> desk.fader(8, level), -4);
        }
        EDGES.same("fader(1, 1000)", desk.fader(1, 1000), 300);
        EDGES.same("fader(1, 0)", desk.fader(1, 0), 1000);
        EDGES.same("fader(8, 1000)", desk.fader(8, 1000), 400);
        EDGES.same("fader(8, 1)", desk.fader(8, 1), 1000);
        EDGES.same("one without units", desk.fader(5, 7), 0);
        EDGES.same("one without units", desk.fader(5, 8), 7);
    }

    private static void bumpsAndRuns() {
        EDGES.sentence("Promise 15: The BUMP of sub s: 1 if it was on, else 0. -2");
        LightDesk desk = busy();
        for (int s : new int[] {0, -1, 9, LEAST, GREATEST}) {
            EDGES.refused(desk, "bump(" + s + ")", () -> desk.bump(s, true), -2);
            EDGES.refused(desk, "bump(" + s + ")", () -> desk.bump(s, false), -2);
        }
        for (int s : new int[] {1, 5}) {
            EDGES.same("bump(" + s + ")", desk.bump(s, true), 0);
            EDGES.same("bump(" + s + ")", desk.bump(s, true), 1);
            EDGES.same("bump(" + s + ")", desk.bump(s, false), 1);
            EDGES.same("bump(" + s + ")", desk.bump(s, false), 0);
        }
        EDGES.same("bump(8)", desk.bump(8, true), 1);
        EDGES.sentence("Promise 18: Whether wave w RUNS: 1 if it did, else 0. -2: no such wave (it may be none)");
        for (int w : new int[] {0, -1, 5, LEAST, GREATEST}) {
            EDGES.refused(desk, "run(" + w + ")", () -> desk.run(w, true), -2);
            EDGES.refused(desk, "run(" + w + ")", () -> desk.run(w, false), -2);
        }
        for (int w : new int[] {2, 4}) {
            EDGES.same("run(" + w + ")", desk.run(w, true), 0);
            EDGES.same("run(" + w + ")", desk.run(w, true), 1);
            EDGES.same("run(" + w + ")", desk.run(w, false), 1);
            EDGES.same("run(" + w + ")", desk.run(w, false), 0);
        }
        EDGES.same("run(1)", desk.run(1, true), 1);
        EDGES.sentence("Promise 18: a wave RUNS, whatever it becomes");
        EDGES.fine(desk, "wave 1 = none; wave 1 = step dim size 5 rate 5 spread 5 on 1;");
        EDGES.same("run(1)", desk.run(1, true), 1);
    }

    private static void grand() {
        EDGES.sentence("Promise 16: GRAND: what it was. -4: no level");
        LightDesk desk = busy();
        for (int level : new int[] {-1, 1001, LEAST, GREATEST}) {
            EDGES.refused(desk, "grand(" + level + ")", () -> desk.grand(level), -4);
        }
        EDGES.same("grand(0)", desk.grand(0), 950);
        EDGES.same("grand(1000)", desk.grand(1000), 0);
        EDGES.same("grand(1)", desk.grand(1), 1000);
    }

    private static void slots() {
        EDGES.sentence("Promise 19: The byte of slot k. -2: there is none such");
        LightDesk desk = busy();
        for (int k : new int[] {0, -1, 201, LEAST, GREATEST}) {
            EDGES.refused(desk, "slot(" + k + ")", () -> desk.slot(k), -2);
        }
        EDGES.same("slot(1)", desk.slot(1) >= 0 ? 1 : 0, 1);
        EDGES.same("slot(200), parked", desk.slot(200), 0);
        EDGES.same("slot(50), of no unit", desk.slot(50), 0);
    }

    private static void levels() {
        EDGES.sentence("Promise 20: The LEVEL of a parameter of a unit. -2: it is not patched, or has not that one");
        LightDesk desk = busy();
        for (int unit : new int[] {0, -1, 4, 38, 41, LEAST, GREATEST}) {
            EDGES.refused(desk, "level(" + unit + ", 0)", () -> desk.level(unit, 0), -2);
            EDGES.refused(desk, "level(" + unit + ", 9)", () -> desk.level(unit, 9), -2);
        }
        for (int parameter : new int[] {-1, 1, 8, 9, 31, 32, 33, 64, -32, LEAST, GREATEST}) {
            EDGES.refused(desk, "level(1, " + parameter + ")", () -> desk.level(1, parameter), -2);
        }
        EDGES.same("level(40, 7)", desk.level(40, 7), 1000);
        EDGES.same("level(40, 8)", desk.level(40, 8), -2);
        EDGES.same("level(39, 8)", desk.level(39, 8), 500);
        EDGES.fine(desk, "unpatch 1;");
        EDGES.same("not patched now", desk.level(1, 0), -2);
    }

    private static void shown() {
        EDGES.sentence("Promise 21: SHOWN of a unit. -2: it is not patched");
        LightDesk desk = busy();
        for (int unit : new int[] {0, -1, 4, 38, 41, LEAST, GREATEST}) {
            EDGES.refused(desk, "shown(" + unit + ")", () -> desk.shown(unit), -2);
        }
        EDGES.same("shown(1)", desk.shown(1) >= 0 ? 1 : 0, 1);
        EDGES.same("shown(40)", desk.shown(40) >= 0 ? 1 : 0, 1);
        EDGES.fine(desk, "unpatch 40;");
        EDGES.same("not patched now", desk.shown(40), -2);
    }

    private static void trackedAndOrigin() {
        EDGES.sentence("Promise 22, 23: number c (0 .. 999). -2: no such number, unit (1 .. 40), parameter");
        LightDesk desk = busy();
        int[][] rows = {{-1, 1, 0}, {1000, 1, 0}, {LEAST, 1, 0}, {GREATEST, 1, 0}, {0, 0, 0}, {0, 41, 0}, {0, -1, 0}, {0, LEAST, 0}, {0, GREATEST, 0},
            {0, 1, -1},
            {0, 1, 9}, {0, 1, LEAST}, {0, 1, GREATEST}, {1000, 41, 9}, {999, 41, 8}, {999, 40, 9}, {1000, 40, 8}, {10, 0, 9}, {10, 41, -1}};
        for (int[] row : rows) {
            String names = "(" + row[0] + ", " + row[1] + ", " + row[2] + ")";
            EDGES.refused(desk, "tracked" + names, () -> desk.tracked(row[0], row[1], row[2]), -2);
            EDGES.refused(desk, "origin" + names, () -> desk.origin(row[0], row[1], row[2]), -2);
        }
        EDGES.same("tracked(0, 1, 0)", desk.tracked(0, 1, 0), 0);
        EDGES.same("tracked(0, 40, 8)", desk.tracked(0, 40, 8), 0);
        EDGES.same("tracked(999, 1, 0)", desk.tracked(999, 1, 0), 100);
        EDGES.same("tracked(999, 40, 0)", desk.tracked(999, 40, 0), 900);
        EDGES.same("tracked(999, 40, 8), that it has not", desk.tracked(999, 40, 8), 0);
        EDGES.same("tracked(999, 38, 1), not patched", desk.tracked(999, 38, 1), 1000);
        EDGES.sentence("Promise 23: Its ORIGIN, 0 without one");
        EDGES.same("origin(0, 1, 0)", desk.origin(0, 1, 0), 0);
        EDGES.same("origin(9, 1, 0)", desk.origin(9, 1, 0), 0);
        EDGES.same("origin(10, 1, 0)", desk.origin(10, 1, 0), 10);
        EDGES.same("origin(999, 1, 0)", desk.origin(999, 1, 0), 999);
        EDGES.same("origin(999, 40, 0)", desk.origin(999, 40, 0), 10);
        EDGES.same("origin(999, 40, 8), that it has not", desk.origin(999, 40, 8), 0);
        EDGES.same("origin(999, 38, 0), not patched", desk.origin(999, 38, 0), 0);
    }

    private static void changes() {
        EDGES.sentence("Promise 24: a level, or 2000 and the palette; NONE without one. -2: no such cue, unit, parameter");
        LightDesk desk = busy();
        int[][] rows = {{0, 1, 0}, {-1, 1, 0}, {9, 1, 0}, {11, 1, 0}, {998, 1, 0}, {1000, 1, 0}, {LEAST, 1, 0}, {GREATEST, 1, 0}, {10, 0, 0},
            {10, 41, 0},
            {10, -1, 0}, {10, LEAST, 0}, {10, GREATEST, 0}, {10, 1, -1}, {10, 1, 9}, {10, 1, LEAST}, {10, 1, GREATEST}, {999, 41, 8}, {999, 40, 9}};
        for (int[] row : rows) {
            EDGES.refused(desk, "change(" + row[0] + ", " + row[1] + ", " + row[2] + ")", () -> desk.change(row[0], row[1], row[2]), -2);
        }
        EDGES.same("a level", desk.change(10, 40, 0), 900);
        EDGES.same("2000 and the palette", desk.change(20, 2, 1), 2012);
        EDGES.same("none", desk.change(30, 1, 0), -1);
        EDGES.same("none, of a unit not patched", desk.change(999, 38, 8), -1);
        EDGES.same("none, of a parameter that it has not", desk.change(999, 40, 8), -1);
        EDGES.fine(desk, "2 @ from 1;");
        EDGES.same("2000 and the first palette", desk.change(999, 2, 0), 2001);
    }

    private static void held() {
        EDGES.sentence("Promise 25: The programmer's value there, as change(). -2: no such unit, parameter");
        LightDesk desk = busy();
        int[][] rows = {{0, 0}, {41, 0}, {-1, 0}, {LEAST, 0}, {GREATEST, 0}, {1, -1}, {1, 9}, {1, LEAST}, {1, GREATEST}, {40, 9}, {41, 8}, {0, 9}};
        for (int[] row : rows) {
            EDGES.refused(desk, "held(" + row[0] + ", " + row[1] + ")", () -> desk.held(row[0], row[1]), -2);
        }
        EDGES.same("a level", desk.held(3, 0), 44);
        EDGES.same("none", desk.held(1, 0), -1);
        EDGES.same("none, the last", desk.held(40, 8), -1);
        EDGES.same("none, of a unit not patched", desk.held(38, 0), -1);
        EDGES.fine(desk, "live; 1 @ 0; 2 red from 12 green from 1; 40 iris full;");
        EDGES.same("a level 0", desk.held(1, 0), 0);
        EDGES.same("2000 and the palette", desk.held(2, 1), 2012);
        EDGES.same("2000 and the palette", desk.held(2, 2), 2001);
        EDGES.same("a level 1000", desk.held(40, 7), 1000);
    }

    private static void cues() {
        EDGES.sentence("Promise 26: Of the i-th cue, from 0 on, by numbers; NONE if there is none such, or for another what");
        LightDesk desk = busy();
        for (int i : new int[] {-1, 4, 29, 30, 999, LEAST, GREATEST}) {
            EDGES.refused(desk, "cue(" + i + ", 0)", () -> desk.cue(i, 0), -1);
            EDGES.refused(desk, "cue(" + i + ", 6)", () -> desk.cue(i, 6), -1);
        }
        for (int what : new int[] {-1, 8, LEAST, GREATEST}) {
            EDGES.refused(desk, "cue(0, " + what + ")", () -> desk.cue(0, what), -1);
            EDGES.refused(desk, "cue(3, " + what + ")", () -> desk.cue(3, what), -1);
        }
        int[][] due = {{10, 50, 40, 30, 5, 200, 8, 30}, {20, 0, 0, 0, 0, -1, 2, -1}, {30, 0, 0, 0, 0, -1, 0, -1}, {999, 9, 0, 0, 0, -1, 2, -1}};
        for (int i = 0; i < 4; i++) {
            for (int what = 0; what < 8; what++) {
                EDGES.same("cue(" + i + ", " + what + ")", desk.cue(i, what), due[i][what]);
            }
        }
        LightDesk full = Checks.desk(Edges.cues());
        EDGES.same("the thirtieth", full.cue(29, 0), 300);
        EDGES.same("behind the thirtieth", full.cue(30, 0), -1);
    }

    private static void units() {
        EDGES.sentence("Promise 27: Of a patched unit; NONE if it is not patched, or for another what");
        LightDesk desk = busy();
        for (int unit : new int[] {0, -1, 4, 38, 41, LEAST, GREATEST}) {
            for (int what = 0; what <= 6; what++) {
                int asked = what;
                EDGES.refused(desk, "unit(" + unit + ", " + what + ")", () -> desk.unit(unit, asked), -1);
            }
        }
        for (int what : new int[] {-1, 7, LEAST, GREATEST}) {
            EDGES.refused(desk, "unit(1, " + what + ")", () -> desk.unit(1, what), -1);
            EDGES.refused(desk, "unit(40, " + what + ")", () -> desk.unit(40, what), -1);
        }
        int[] due = {7, 193, 900, 1, 1, 1, 0};
        for (int what = 0; what <= 6; what++) {
            EDGES.same("unit(40, " + what + ")", desk.unit(40, what), due[what]);
        }
        EDGES.same("POSITION", desk.unit(39, 6), 500);
        EDGES.fine(desk, "unpatch 39;");
        EDGES.same("POSITION of one that is not patched", desk.unit(39, 6), -1);
    }

    private static void groups() {
        EDGES.sentence("Promise 28: The i-th unit of group g, from 0 on; NONE");
        LightDesk desk = busy();
        for (int g : new int[] {0, -1, 2, 11, 13, LEAST, GREATEST}) {
            EDGES.refused(desk, "group(" + g + ", 0)", () -> desk.group(g, 0), -1);
        }
        for (int i : new int[] {-1, 2, 39, 40, LEAST, GREATEST}) {
            EDGES.refused(desk, "group(1, " + i + ")", () -> desk.group(1, i), -1);
        }
        EDGES.same("group(1, 0)", desk.group(1, 0), 40);
        EDGES.same("group(1, 1)", desk.group(1, 1), 1);
        EDGES.same("group(12, 0)", desk.group(12, 0), 2);
        EDGES.same("group(12, 1)", desk.group(12, 1), -1);
        EDGES.sentence("Promise 28: a row that has become shorter");
        EDGES.fine(desk, "group 1 = 2;");
        EDGES.same("group(1, 1)", desk.group(1, 1), -1);
    }

    private static void palettes() {
        EDGES.sentence("Promise 29: What palette k has for a parameter; NONE");
        LightDesk desk = busy();
        for (int k : new int[] {0, -1, 2, 13, LEAST, GREATEST}) {
            EDGES.refused(desk, "palette(" + k + ", 0)", () -> desk.palette(k, 0), -1);
        }
        for (int parameter : new int[] {-1, 1, 9, LEAST, GREATEST}) {
            EDGES.refused(desk, "palette(1, " + parameter + ")", () -> desk.palette(1, parameter), -1);
        }
        EDGES.same("palette(1, 0)", desk.palette(1, 0), 5);
        EDGES.same("palette(1, 8)", desk.palette(1, 8), 6);
        EDGES.same("palette(12, 1)", desk.palette(12, 1), 7);
    }

    private static void subsAndMasters() {
        EDGES.sentence("Promise 30: What sub s has for a unit; NONE");
        LightDesk desk = busy();
        for (int s : new int[] {0, -1, 2, 9, LEAST, GREATEST}) {
            EDGES.refused(desk, "sub(" + s + ", 1)", () -> desk.sub(s, 1), -1);
        }
        for (int unit : new int[] {0, -1, 2, 41, LEAST, GREATEST}) {
            EDGES.refused(desk, "sub(1, " + unit + ")", () -> desk.sub(1, unit), -1);
        }
        EDGES.same("sub(1, 1)", desk.sub(1, 1), 800);
        EDGES.same("sub(1, 40)", desk.sub(1, 40), 800);
        EDGES.same("sub(8, 2)", desk.sub(8, 2), 900);
        EDGES.sentence("Promise 31: Whether sub s MASTERS: 1, else 0. -2: no such sub");
        for (int s : new int[] {0, -1, 9, LEAST, GREATEST}) {
            EDGES.refused(desk, "masters(" + s + ")", () -> desk.masters(s), -2);
        }
        for (int s = 1; s <= 8; s++) {
            EDGES.same("masters(" + s + ")", desk.masters(s), s == 8 ? 1 : 0);
        }
    }

    private static void parks() {
        EDGES.sentence("Promise 32: The byte that slot k has of PARKS; NONE");
        LightDesk desk = busy();
        for (int k : new int[] {0, -1, 1, 4, 6, 199, 201, LEAST, GREATEST}) {
            EDGES.refused(desk, "park(" + k + ")", () -> desk.park(k), -1);
        }
        EDGES.same("park(5)", desk.park(5), 77);
        EDGES.same("park(200)", desk.park(200), 0);
        EDGES.fine(desk, "park 1 @ 255;");
        EDGES.same("park(1)", desk.park(1), 255);
    }

    private static void events() {
        EDGES.sentence("Promise 33: Of event n, what 0: its time, 1 its cue's number; NONE if it is none, or there is none such, "
            + "or for another what");
        LightDesk desk = busy();
        for (int n : new int[] {0, -1, 2, 9, 11, LEAST, GREATEST}) {
            EDGES.refused(desk, "event(" + n + ", 0)", () -> desk.event(n, 0), -1);
            EDGES.refused(desk, "event(" + n + ", 1)", () -> desk.event(n, 1), -1);
        }
        for (int what : new int[] {-1, 2, LEAST, GREATEST}) {
            EDGES.refused(desk, "event(1, " + what + ")", () -> desk.event(1, what), -1);
        }
        EDGES.same("event(1, 0)", desk.event(1, 0), 9999);
        EDGES.same("event(1, 1)", desk.event(1, 1), 10);
        EDGES.same("event(10, 0)", desk.event(10, 0), 400);
        EDGES.same("event(10, 1)", desk.event(10, 1), 999);
        EDGES.sentence("Promise 33: an EVENT that has come stays");
        desk.advance(600);
        EDGES.same("event(10, 0)", desk.event(10, 0), 400);
    }

    private static void waves() {
        EDGES.sentence("Promise 34: Of wave w: 5 and more: the unit in place what - 5 of its row; NONE if it is none, or there is none such");
        LightDesk desk = busy();
        for (int w : new int[] {0, -1, 2, 3, 5, LEAST, GREATEST}) {
            for (int what = 0; what <= 5; what++) {
                int asked = what;
                EDGES.refused(desk, "wave(" + w + ", " + what + ")", () -> desk.wave(w, asked), -1);
            }
        }
        for (int what : new int[] {-1, 7, 44, 45, 46, LEAST, GREATEST}) {
            EDGES.refused(desk, "wave(1, " + what + ")", () -> desk.wave(1, what), -1);
        }
        int[] due = {0, 0, 100, 7, 500, 1, 40};
        for (int what = 0; what < due.length; what++) {
            EDGES.same("wave(1, " + what + ")", desk.wave(1, what), due[what]);
        }
        EDGES.same("wave(4, 0)", desk.wave(4, 0), 1);
        EDGES.same("wave(4, 1)", desk.wave(4, 1), 8);
        LightDesk full = Checks.desk(Edges.lamps(), "wave 4 = step dim size 1 rate 1 spread 1 on 40 thru 1;");
        EDGES.same("the first of forty", full.wave(4, 5), 40);
        EDGES.same("the last of forty", full.wave(4, 44), 1);
        EDGES.same("behind the last", full.wave(4, 45), -1);
    }

    private static void states() {
        EDGES.sentence("Promise 35: state; NONE for another what");
        LightDesk desk = busy();
        for (int what : new int[] {-1, 10, LEAST, GREATEST}) {
            EDGES.refused(desk, "state(" + what + ")", () -> desk.state(what), -1);
        }
        int[] due = {25, 25, 10, 4, 5, 5, 999, 1, 5, 11};
        for (int what = 0; what < due.length; what++) {
            EDGES.same("state(" + what + ")", desk.state(what), due[what]);
        }
        EDGES.sentence("Promise 35: at its greatest");
        LightDesk full = Checks.desk(Edges.lamps(), Edges.cues(), "all @ full; record 10 up 600;");
        EDGES.same("cues", full.state(3), 30);
        EDGES.same("patched units", full.state(4), 40);
        EDGES.same("values", full.state(7), 40);
        full.go();
        EDGES.same("fading", full.state(8), 40);
        full.advance(599);
        EDGES.same("a tenth ahead of the end", full.state(8), 40);
        full.advance(1);
        EDGES.same("at the end", full.state(8), 0);
        EDGES.fine(full, "clear; unpatch all;");
        EDGES.same("patched units", full.state(4), 0);
        EDGES.same("values", full.state(7), 0);
        EDGES.sentence("Promise 35: parameters that fade, of units that are not patched any more: none");
        LightDesk gone = Checks.desk(Edges.lamps(), "all @ full; record 10 up 600; clear;");
        gone.go();
        gone.advance(5);
        EDGES.fine(gone, "unpatch 1 thru 39;");
        EDGES.same("fading", gone.state(8), 1);
    }

    /** Forty units on all of the slots, and all that there can be of everything else. */
    private static LightDesk full() {
        StringBuilder text = new StringBuilder();
        for (int unit = 1; unit <= 20; unit++) {
            text.append("patch ").append(unit).append(" spot at ").append(unit * 8 - 7).append(';');
            text.append("patch ").append(unit + 20).append(" fine at ").append(159 + unit * 2).append(';');
        }
        LightDesk desk = Checks.desk(text.toString());
        String levels = "dim 1 red 2 green 3 blue 4 pan 5 tilt 6 wheel 7 iris 8 roll 9";
        for (int i = 1; i <= 12; i++) {
            EDGES.fine(desk, "group " + i + " = 40 thru 1; palette " + i + " = " + levels + ";");
        }
        for (int i = 1; i <= 8; i++) {
            EDGES.fine(desk, "sub " + i + " masters; sub " + i + " with all @ 1000;");
        }
        for (int i = 1; i <= 4; i++) {
            EDGES.fine(desk, "wave " + i + " = saw dim size 1000 rate 1000 spread 1000 on 40 thru 1;");
        }
        EDGES.fine(desk, "all " + levels + ";");
        for (int i = 1; i <= 30; i++) {
            EDGES.fine(desk, "record " + (i < 30 ? i : 999) + " up 600 down 600 move 600 delay 600 follow 600 link 999;");
        }
        for (int i = 1; i <= 10; i++) {
            EDGES.fine(desk, "event " + i + " = 9999 cue 999;");
        }
        for (int k = 1; k <= 200; k++) {
            EDGES.fine(desk, "park " + k + " @ 255;");
        }
        return desk;
    }

    private static void allPlacesTaken() {
        EDGES.sentence("all places taken");
        LightDesk desk = full();
        int[] due = {0, 0, 0, 30, 40, 8, -1, 120, 0, 0};
        for (int what = 0; what < due.length; what++) {
            EDGES.same("state(" + what + ")", desk.state(what), due[what]);
        }
        EDGES.same("changes of the first cue", desk.cue(0, 6), 120);
        EDGES.same("changes of the last cue", desk.cue(29, 6), 120);
        EDGES.same("the last change", desk.change(999, 40, 0), 1);
        EDGES.same("the last slot", desk.slot(200), 255);
        EDGES.refused(desk, "save()", desk::save, -1);
        EDGES.faulty(desk, 7, "patch ^40 lamp at 200;", "patch ^1 lamp at 1;", "copy 1 to ^999;");
        EDGES.faulty(desk, 5, "cue ^30;", "record ^998;", "copy 999 to ^500;");
        EDGES.faulty(desk, "^1 - all @ 5;", 6);
        EDGES.fine(desk, "block 999; unblock 999;");
        EDGES.same("all of them are the same as TRACKED", desk.cue(29, 6), 0);
        EDGES.fine(desk, "block 999;");
        EDGES.same("all of them are TRACKED", desk.cue(29, 6), 120);
        EDGES.same("the first cue is taken", desk.go(), 1);
        EDGES.same("fading: dim, and nothing else, as all are DARK", desk.state(8), 40);
        EDGES.same("LINK", desk.go(), 999);
        EDGES.fine(desk, "unpatch all;");
        EDGES.same("units", desk.state(4), 0);
        EDGES.same("changes", desk.cue(29, 6), 0);
        EDGES.same("the last group", desk.group(12, 0), -1);
        EDGES.same("the last sub", desk.sub(8, 40), -1);
        EDGES.same("the last wave", desk.wave(4, 0), -1);
        EDGES.same("values", desk.state(7), 0);
        EDGES.same("undo", desk.undo(), 1);
        EDGES.same("changes", desk.cue(29, 6), 120);
        EDGES.same("the last group's last unit", desk.group(12, 39), 1);
        EDGES.same("the last wave's last unit", desk.wave(4, 44), 1);
        EDGES.same("values", desk.state(7), 120);
    }

    /** What is refused between the tenths of a fade changes nothing that is seen later either. */
    private static void refusedInAFade() {
        EDGES.sentence("With a refused call, or a FAULT, nothing has changed");
        LightDesk left = busy();
        LightDesk disturbed = busy();
        left.end(0);
        left.enter();
        disturbed.end(0);
        disturbed.enter();
        String[] faulty = {"#", "4 @ 5;", "1 @ 1001;", "patch 4 lamp at 1;", "1 - 1 @ 5;", "patch 1 lamp at 100;", "copy 10 to 20;", "sneak 601;",
            "jump 20;"};
        for (int i = 0; i < 60; i++) {
            disturbed.jump(i % 2 == 0 ? 5 : 1000);
            disturbed.advance(i % 2 == 0 ? -1 : 601);
            disturbed.fader(i % 9 == 8 ? 9 : i % 9, i % 9 == 0 || i % 9 == 8 ? 500 : 1001);
            disturbed.bump(i % 2 == 0 ? 0 : 9, true);
            disturbed.run(i % 2 == 0 ? 0 : 5, true);
            disturbed.grand(i % 2 == 0 ? -1 : 1001);
            disturbed.end(i % 2 == 0 ? -1 : 1);
            disturbed.enter();
            EDGES.same("done of a faulty text", Checks.text(disturbed, faulty[i % faulty.length]), 0);
            EDGES.same("the CLOCK", disturbed.advance(5), left.advance(5));
            EDGES.same("the picture", Picture.difference(Picture.of(left), Picture.of(disturbed)), "");
            if (i % 20 == 19) {
                EDGES.same("go", disturbed.go(), left.go());
            }
        }
        EDGES.same("undo", disturbed.undo(), left.undo());
        EDGES.same("the picture", Picture.difference(Picture.of(left), Picture.of(disturbed)), "");
    }
}
