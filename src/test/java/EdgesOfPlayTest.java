/** "Terms" 4: what is taken at once, followed, or stays; the tenth at which something begins, ends or comes. */
public final class EdgesOfPlayTest {
    private static final Edges EDGES = new Edges("EdgesOfPlayTest");
    private static final String RIG = "patch 1 lamp at 1; patch 2 tint at 2; patch 3 head at 10; patch 40 spot at 20;";

    public static void main(String[] args) {
        atFirst();
        beginAndEndOfAFade();
        delays();
        upOrDown();
        moveOfEachParameter();
        goalThatIsThere();
        dark();
        darkWhileItFades();
        takenAtOnce();
        currentStays();
        nextAndLink();
        followedAtItsTenth();
        followedAtMost();
        followedBehindCalls();
        holding();
        eventsAtTheirTenth();
        eventsByNumbers();
        eventsAheadOfFollow();
        rollers();
        behindTexts();
        behindUndo();
        textsWithoutCues();
        EDGES.finish();
    }

    private static void atFirst() {
        EDGES.sentence("the CLOCK and the FADE CLOCK (0 at first), CURRENT (0 at first: none), HOLD (off); a GOAL, HOME at first");
        LightDesk desk = Checks.desk(RIG);
        for (int what = 0; what <= 2; what++) {
            EDGES.same("state " + what, desk.state(what), 0);
        }
        EDGES.same("none fades", desk.state(8), 0);
        EDGES.same("HOLD", desk.hold(false) ? 1 : 0, 0);
        int[] home = {0, -2, -2, -2, 500, 500, 0, 1000, -2};
        for (int parameter = 0; parameter < 9; parameter++) {
            EDGES.same("CUE LEVEL " + parameter, desk.level(40, parameter), home[parameter]);
        }
        EDGES.sentence("a GOAL, HOME at first, seen by the very text that patches");
        LightDesk fresh = Checks.desk("patch 1 spot at 1; patch 2 tint at 20; 1 pan + 5 tilt - 5 iris - 5 wheel + 5 @ + 5; 2 red - 1 green - 2 blue - 3;");
        int[] due = {5, 999, 998, 997, 505, 495, 5, 995};
        for (int parameter = 0; parameter < due.length; parameter++) {
            EDGES.same("its CUE LEVEL and so much " + parameter, fresh.held(parameter > 0 && parameter < 4 ? 2 : 1, parameter), due[parameter]);
        }
        LightDesk sneaked = Checks.desk("patch 1 spot at 1; 1 pan 0 iris 0; sneak 10;");
        sneaked.advance(5);
        EDGES.same("what sneaks fades to HOME", sneaked.level(1, 4), 250);
        EDGES.same("what sneaks fades to HOME", sneaked.level(1, 7), 500);
        EDGES.sentence("CURRENT is none at first");
        desk.advance(5);
        EDGES.same("none follows, as there is none", desk.state(2), 0);
        EDGES.fine(desk, "cue 1 follow 0; cue 2 follow 5;");
        desk.advance(5);
        EDGES.same("none follows, as CURRENT is none", desk.state(2), 0);
    }

    private static void beginAndEndOfAFade() {
        EDGES.sentence("CUE LEVEL: ahead of the begin that level; from begin + time on the GOAL; between MIX");
        for (int time : new int[] {0, 1, 2, 3, 7, 600}) {
            LightDesk desk = Checks.desk(RIG, "1 @ 1000; record 1 up " + time + "; 1 @ 1; record 2 down " + time + "; clear;");
            desk.advance(9);
            desk.go();
            for (int passed = 0; passed <= time + 1; passed++) {
                int due = passed >= time ? 1000 : 1000 * passed / time;
                EDGES.same("up in " + time + ", at " + passed, desk.level(1, 0), due);
                EDGES.same("fading up in " + time + ", at " + passed, desk.state(8), passed < time ? 1 : 0);
                desk.advance(1);
            }
            desk.go();
            for (int passed = 0; passed <= time + 1; passed++) {
                int due = passed >= time ? 1 : 1000 - 999 * passed / time;
                EDGES.same("down in " + time + ", at " + passed, desk.level(1, 0), due);
                desk.advance(1);
            }
        }
    }

    private static void delays() {
        EDGES.sentence("its begin the FADE CLOCK and DELAY");
        for (int delay : new int[] {0, 1, 5, 600}) {
            LightDesk desk = Checks.desk(RIG,
                "1 @ 10; record 1; 1 @ 1000; record 2 up 10 delay " + delay + "; 1 @ 10; record 3 delay " + delay + "; clear;");
            desk.go();
            desk.go();
            if (delay > 0) {
                desk.advance(delay - 1);
                EDGES.same("ahead of the begin", desk.level(1, 0), 10);
                EDGES.same("it is not the GOAL", desk.state(8), 1);
                desk.advance(1);
            }
            EDGES.same("at the begin", desk.level(1, 0), 10);
            desk.advance(1);
            EDGES.same("a tenth of it", desk.level(1, 0), 109);
            desk.advance(9);
            EDGES.same("at the end", desk.level(1, 0), 1000);
            desk.go();
            if (delay > 0) {
                desk.advance(delay - 1);
                EDGES.same("in no time, ahead of the begin", desk.level(1, 0), 1000);
                desk.advance(1);
            }
            EDGES.same("in no time, at the begin", desk.level(1, 0), 10);
        }
    }

    private static void upOrDown() {
        EDGES.sentence("its time of dim UP if g is above that level, else DOWN, of others MOVE");
        LightDesk desk = Checks.desk(RIG,
            "1 @ 500; record 1; 1 @ 501; record 2 up 100 down 50 move 20; 1 @ 500; record 3 up 100 down 50 move 20; clear;");
        desk.go();
        desk.go();
        desk.advance(99);
        EDGES.same("one above: UP", desk.level(1, 0), 500);
        desk.advance(1);
        EDGES.same("one above: UP", desk.level(1, 0), 501);
        desk.go();
        desk.advance(49);
        EDGES.same("one below: DOWN", desk.level(1, 0), 501);
        desk.advance(1);
        EDGES.same("one below: DOWN", desk.level(1, 0), 500);
        EDGES.sentence("g is held against the CUE LEVEL, not against the GOAL that was");
        LightDesk fading = Checks.desk(RIG, "1 @ 1000; record 1 up 100; 1 @ 600; record 2 up 10 down 20; 1 @ 800; record 3 up 30 down 40; clear;");
        fading.go();
        fading.advance(50);
        fading.go();
        fading.advance(5);
        EDGES.same("from 500 to 600, though the GOAL was 1000", fading.level(1, 0), 550);
        LightDesk falling = Checks.desk(RIG, "1 @ 1000; record 1; 1 @ 0; record 2 down 100; 1 @ 600; record 3 up 10 down 20; clear;");
        falling.go();
        falling.go();
        falling.advance(20);
        falling.go();
        falling.advance(10);
        EDGES.same("from 800 to 600, though the GOAL was 0", falling.level(1, 0), 700);
    }

    private static void moveOfEachParameter() {
        EDGES.sentence("of others MOVE: upwards and downwards, of each parameter but dim");
        LightDesk desk = Checks.desk("patch 1 spot at 1; patch 2 tint at 20; patch 3 roller at 30; all @ 500; record 1; clear;"
            + "1 pan 0 tilt 1000 wheel 1000 iris 0; 2 red 0 green 0 blue 0; 3 roll 1000; record 2 move 10 up 3 down 3; clear;");
        desk.go();
        desk.go();
        desk.advance(5);
        int[] units = {1, 2, 2, 2, 1, 1, 1, 1, 3};
        int[] due = {500, 500, 500, 500, 250, 750, 500, 500, 500};
        for (int parameter = 0; parameter < 9; parameter++) {
            EDGES.same("half of " + parameter, desk.level(units[parameter], parameter), due[parameter]);
        }
        EDGES.same("they fade", desk.state(8), 8);
        desk.advance(5);
        EDGES.same("none fades", desk.state(8), 0);
    }

    private static void goalThatIsThere() {
        EDGES.sentence("If g is the GOAL, what fades goes on as it did");
        LightDesk desk = Checks.desk(RIG, "1 @ 1000; record 1 up 10; record 2 up 100; record 3; clear; cue 4; cue 5 delay 600;");
        desk.go();
        desk.advance(2);
        for (int i = 3; i <= 6; i++) {
            desk.go();
            desk.advance(1);
            EDGES.same("it goes on over cue " + (i - 1), desk.level(1, 0), i * 100);
        }
        desk.back();
        EDGES.same("taken at once, too", desk.level(1, 0), 600);
        EDGES.same("CURRENT", desk.state(2), 4);
    }

    private static void dark() {
        EDGES.sentence("A unit is DARK if its CUE LEVEL and its GOAL of dim are 0 as this begins; "
            + "for all parameters but dim: DELAY and times count as 0");
        LightDesk desk = Checks.desk(RIG, "3 @ 1000 pan 0; record 1 up 10 move 10 delay 5; clear;");
        desk.go();
        EDGES.same("dark: its pan at once", desk.level(3, 4), 0);
        EDGES.same("but its dim by DELAY and UP", desk.level(3, 0), 0);
        desk.advance(10);
        EDGES.same("but its dim by DELAY and UP", desk.level(3, 0), 500);
        EDGES.sentence("DARK: a CUE LEVEL of 1 is not dark");
        LightDesk one = Checks.desk(RIG, "3 @ 1; record 1; 3 @ 0 pan 1000; record 2 move 10; clear;");
        one.go();
        one.go();
        EDGES.same("its CUE LEVEL is 0 only behind that", one.level(3, 4), 500);
        one.advance(5);
        EDGES.same("half", one.level(3, 4), 750);
        EDGES.sentence("DARK by the CUE LEVEL, whatever the programmer, subs and waves give");
        LightDesk lit = Checks.desk(RIG,
            "3 pan 1000; record 1 move 10; clear; sub 1 with 3 @ 1000; wave 1 = saw dim size 1000 rate 999 spread 0 on 3; 3 @ 1000;");
        lit.bump(1, true);
        lit.run(1, true);
        lit.advance(1);
        EDGES.same("shown", lit.shown(3), 1000);
        lit.go();
        EDGES.same("at once", lit.level(3, 4), 1000);
        EDGES.sentence("DARK: each unit of its own");
        LightDesk two = Checks.desk(RIG, "3 @ 500; record 1; 3 pan 1000; 40 pan 1000; record 2 move 10; clear;");
        two.go();
        two.go();
        EDGES.same("the one that is not", two.level(3, 4), 500);
        EDGES.same("the one that is", two.level(40, 4), 1000);
    }

    private static void darkWhileItFades() {
        EDGES.sentence("DARK: its CUE LEVEL is 0, its GOAL not: not dark");
        LightDesk delayed = Checks.desk(RIG, "3 @ 500; record 1 delay 10; 3 pan 1000; record 2 move 10; clear;");
        delayed.go();
        delayed.go();
        EDGES.same("moves", delayed.level(3, 4), 500);
        EDGES.sentence("DARK: its GOAL is 0, its CUE LEVEL not: not dark");
        LightDesk falling = Checks.desk(RIG,
            "3 @ 500; record 1; 3 @ 0; record 2 down 10; 3 pan 1000; record 3 move 10; 3 pan 0; record 4 move 10; clear;");
        falling.go();
        falling.go();
        falling.advance(9);
        falling.go();
        EDGES.same("a tenth ahead of dark", falling.level(3, 4), 500);
        falling.advance(1);
        falling.go();
        EDGES.same("dark now: at once", falling.level(3, 4), 0);
        EDGES.sentence("DARK: a dim that falls below 1 by CUT is 0, though it fades");
        LightDesk rising = Checks.desk(RIG, "3 @ 1; record 1 up 10; 3 pan 1000; record 2 move 10; clear;");
        rising.go();
        rising.advance(9);
        EDGES.same("CUT", rising.level(3, 0), 0);
        rising.go();
        EDGES.same("its GOAL is 1: not dark", rising.level(3, 4), 500);
    }

    private static void takenAtOnce() {
        EDGES.sentence("back(): that of the greatest number below CURRENT is taken at once: DELAY and times count as 0");
        LightDesk desk = Checks.desk(RIG, "1 @ 100; 3 @ 100 pan 0; record 1 up 9 down 9 move 9 delay 9; 1 @ 900; 3 @ 50 pan 900; record 2; clear;");
        desk.go();
        desk.advance(100);
        desk.go();
        EDGES.same("taken", desk.state(2), 2);
        EDGES.same("back", desk.back(), 1);
        EDGES.same("down", desk.level(1, 0), 100);
        EDGES.same("up", desk.level(3, 0), 100);
        EDGES.same("move", desk.level(3, 4), 0);
        EDGES.same("none fades", desk.state(8), 0);
        EDGES.sentence("back() goes by numbers, not by LINK");
        EDGES.fine(desk, "cue 2 link 1; cue 3 link 2; cue 9;");
        desk.jump(9);
        EDGES.same("back", desk.back(), 3);
        EDGES.same("back", desk.back(), 2);
        EDGES.same("back", desk.back(), 1);
        EDGES.same("back", desk.back(), -1);
        EDGES.sentence("jump(): a cue is taken, by its times");
        desk.jump(2);
        desk.jump(1);
        EDGES.same("DELAY", desk.level(1, 0), 900);
    }

    private static void currentStays() {
        EDGES.sentence("CURRENT stays, whatever becomes of the cue");
        LightDesk desk = Checks.desk(RIG, "1 @ 500; record 5 follow 3 link 1; clear; cue 1; cue 9;");
        desk.jump(5);
        EDGES.fine(desk, "delete 5;");
        EDGES.same("deleted", desk.state(2), 5);
        desk.advance(3);
        EDGES.same("no cue CURRENT: not followed", desk.state(2), 5);
        EDGES.same("no LINK: the least above", desk.go(), 9);
        EDGES.fine(desk, "delete 9; delete 1;");
        EDGES.same("no cue at all", desk.state(2), 9);
        EDGES.same("go", desk.go(), -1);
        EDGES.same("back", desk.back(), -1);
        desk.undo();
        desk.undo();
        EDGES.same("undo leaves it", desk.state(2), 9);
        EDGES.sentence("if there are this cue, its LINK: the FOLLOW and the LINK of a cue ahead of one that is gone are not CURRENT's");
        LightDesk gone = Checks.desk("cue 1 follow 3 link 9; cue 5; cue 7; cue 9;");
        gone.jump(5);
        EDGES.fine(gone, "delete 5;");
        gone.advance(3);
        EDGES.same("not followed", gone.state(2), 5);
        EDGES.same("the least above", gone.go(), 7);
    }

    private static void nextAndLink() {
        EDGES.sentence("NEXT is the cue of the number LINK of the cue CURRENT, if there are this cue, its LINK, and that one; "
            + "else the cue of the least number above CURRENT");
        LightDesk desk = Checks.desk("cue 1; cue 2; cue 998 link 1; cue 999 link 2;");
        int[] due = {1, 2, 998, 1, 2, 998};
        for (int number : due) {
            EDGES.same("go", desk.go(), number);
        }
        EDGES.fine(desk, "cue 998 link 998;");
        EDGES.same("its own LINK", desk.go(), 998);
        EDGES.fine(desk, "cue 998 link 3;");
        EDGES.same("a LINK to none: the least above", desk.go(), 999);
        EDGES.fine(desk, "delete 2;");
        EDGES.same("a LINK to one that is gone, and none above", desk.go(), -1);
        EDGES.same("CURRENT", desk.state(2), 999);
        EDGES.fine(desk, "cue 2;");
        EDGES.same("a LINK to one that has come", desk.go(), 2);
        EDGES.sentence("a LINK is not tracked");
        EDGES.same("the next has none", desk.go(), 998);
        EDGES.fine(desk, "cue 998 loose; delete 999;");
        EDGES.same("none above", desk.go(), -1);
        EDGES.sentence("go() at first: the cue of the least number");
        EDGES.same("go", Checks.desk("cue 999;").go(), 999);
        EDGES.same("go", Checks.desk("cue 999; cue 1;").go(), 1);
    }

    private static void followedAtItsTenth() {
        EDGES.sentence("CURRENT is FOLLOWED: the FADE CLOCK is BEGINNING + FOLLOW");
        for (int follow : new int[] {1, 2, 600}) {
            LightDesk desk = Checks.desk("cue 1 follow " + follow + "; cue 2;");
            desk.advance(11);
            desk.go();
            desk.advance(follow - 1);
            EDGES.same("a tenth ahead of " + follow, desk.state(2), 1);
            desk.advance(1);
            EDGES.same("at " + follow, desk.state(2), 2);
        }
        EDGES.sentence("CURRENT is FOLLOWED: behind that tenth no more");
        LightDesk late = Checks.desk("cue 1 follow 5;");
        late.go();
        late.advance(5);
        EDGES.same("no NEXT", late.state(2), 1);
        EDGES.fine(late, "cue 2;");
        late.advance(600);
        EDGES.same("it has passed", late.state(2), 1);
        EDGES.fine(late, "cue 1 follow 600;");
        late.advance(600);
        EDGES.same("605 tenths behind its BEGINNING: it has passed, too", late.state(2), 1);
        EDGES.sentence("a text that makes FOLLOW what has passed already does not follow");
        LightDesk now = Checks.desk("cue 1; cue 2;");
        now.go();
        now.advance(4);
        EDGES.fine(now, "cue 1 follow 4;");
        EDGES.same("not behind a text", now.state(2), 1);
        now.advance(1);
        EDGES.same("nor a tenth later", now.state(2), 1);
        EDGES.fine(now, "cue 1 follow 6;");
        now.advance(1);
        EDGES.same("but when it comes", now.state(2), 2);
        EDGES.sentence("BEGINNING is the FADE CLOCK as the cue is taken, again, too");
        LightDesk again = Checks.desk("cue 1 follow 5; cue 2;");
        again.go();
        again.advance(4);
        again.jump(1);
        again.advance(4);
        EDGES.same("from the second time on", again.state(2), 1);
        again.advance(1);
        EDGES.same("from the second time on", again.state(2), 2);
    }

    private static void followedAtMost() {
        EDGES.sentence("that is taken, 30 times at most");
        StringBuilder text = new StringBuilder();
        for (int i = 1; i <= 30; i++) {
            text.append("cue ").append(i).append(" follow 0;");
        }
        LightDesk desk = Checks.desk(text.toString());
        EDGES.same("one and 29: the last has no NEXT", desk.go(), 30);
        EDGES.fine(desk, "cue 30 link 1;");
        desk.jump(1);
        EDGES.same("one and 30: 1 again", desk.state(2), 1);
        desk.jump(2);
        EDGES.same("one and 30: 2 again", desk.state(2), 2);
        EDGES.fine(desk, "cue 30 link 2;");
        desk.jump(1);
        EDGES.same("one and 30: 2", desk.state(2), 2);
        EDGES.sentence("30 times at most, each tenth anew");
        LightDesk two = Checks.desk("cue 1 follow 1 link 2; cue 2 follow 0 link 3; cue 3 follow 0 link 2;");
        two.go();
        EDGES.same("not yet", two.state(2), 1);
        two.advance(1);
        EDGES.same("30 times: 2, 3 .. 3", two.state(2), 3);
        two.advance(1);
        EDGES.same("BEGINNING is a tenth ago", two.state(2), 3);
        EDGES.fine(two, "cue 3 follow 1;");
        two.jump(3);
        two.advance(1);
        EDGES.same("2, 3, then no more", two.state(2), 3);
        two.advance(7);
        EDGES.same("each tenth 2, 3", two.state(2), 3);
        LightDesk odd = Checks.desk("cue 1 follow 0 link 2; cue 2 follow 0 link 3; cue 3 follow 0 link 4; cue 4 follow 0 link 1;");
        EDGES.same("1, and 30 of four in a ring: 3", odd.go(), 3);
    }

    private static void followedBehindCalls() {
        EDGES.sentence("CURRENT is FOLLOWED also behind each go(), back(), jump() that takes one");
        LightDesk desk = Checks.desk("cue 1 follow 0 link 5; cue 5 follow 0; cue 6; cue 7;");
        EDGES.same("go", desk.go(), 6);
        desk.jump(7);
        desk.advance(3);
        EDGES.same("back", desk.back(), 6);
        EDGES.same("back", desk.back(), 6);
        EDGES.same("jump", desk.jump(1), 6);
        EDGES.sentence("not behind one that takes none");
        LightDesk none = Checks.desk("cue 1; cue 2;");
        none.go();
        none.advance(3);
        EDGES.fine(none, "cue 1 follow 3;");
        EDGES.same("jump", none.jump(9), -2);
        EDGES.same("back", none.back(), -1);
        EDGES.same("CURRENT", none.state(2), 1);
    }

    private static void holding() {
        EDGES.sentence("without HOLD the FADE CLOCK is 1 more, and CURRENT is FOLLOWED");
        LightDesk desk = Checks.desk(RIG, "1 @ 1000; record 1 up 10 follow 4; clear; cue 2;");
        desk.go();
        desk.advance(3);
        desk.hold(true);
        desk.advance(600);
        EDGES.same("the CLOCK", desk.state(0), 603);
        EDGES.same("the FADE CLOCK", desk.state(1), 3);
        EDGES.same("CURRENT", desk.state(2), 1);
        EDGES.same("the fade", desk.level(1, 0), 300);
        desk.hold(false);
        desk.advance(1);
        EDGES.same("the FADE CLOCK", desk.state(1), 4);
        EDGES.same("CURRENT", desk.state(2), 2);
        EDGES.same("the fade", desk.level(1, 0), 400);
        EDGES.sentence("with HOLD an event is done and followed, behind it nothing");
        LightDesk held = Checks.desk("cue 1 follow 0; cue 2 follow 1; cue 3; event 1 = 2 cue 1;");
        held.hold(true);
        held.advance(2);
        EDGES.same("the event", held.state(2), 2);
        held.advance(50);
        EDGES.same("not followed", held.state(2), 2);
        held.hold(false);
        held.advance(1);
        EDGES.same("followed", held.state(2), 3);
    }

    private static void eventsAtTheirTenth() {
        EDGES.sentence("each EVENT whose time that is, and whose cue is there, is done as jump()");
        LightDesk desk = Checks.desk("cue 1; cue 2; event 1 = 5 cue 2; event 2 = 0 cue 1;");
        desk.advance(0);
        EDGES.same("a time 0 never comes", desk.state(2), 0);
        desk.advance(4);
        EDGES.same("a tenth ahead", desk.state(2), 0);
        desk.advance(1);
        EDGES.same("its time", desk.state(2), 2);
        desk.jump(1);
        desk.advance(600);
        EDGES.same("once", desk.state(2), 1);
        EDGES.fine(desk, "event 1 = 605 cue 2;");
        desk.advance(1);
        EDGES.same("a time that it is already does not come", desk.state(2), 1);
        EDGES.sentence("an EVENT whose cue is not there is not done");
        EDGES.fine(desk, "event 1 = 607 cue 3; event 2 = 608 cue 2; delete 2;");
        desk.advance(5);
        EDGES.same("CURRENT", desk.state(2), 1);
        EDGES.sentence("times of events are 0 .. 9999");
        LightDesk late = Checks.desk("cue 1; event 10 = 9999 cue 1;");
        for (int i = 0; i < 16; i++) {
            late.advance(600);
        }
        late.advance(398);
        EDGES.same("a tenth ahead", late.state(2), 0);
        EDGES.same("the CLOCK", late.advance(1), 9999);
        EDGES.same("its time", late.state(2), 1);
    }

    private static void eventsByNumbers() {
        EDGES.sentence("each EVENT, by numbers");
        LightDesk desk = Checks.desk("cue 1; cue 2; cue 3; event 10 = 5 cue 2; event 1 = 5 cue 3; event 5 = 5 cue 1; event 9 = 5 cue 77;");
        desk.advance(5);
        EDGES.same("the tenth is the last", desk.state(2), 2);
        LightDesk all = Checks.desk("cue 1 follow 7; cue 2;");
        for (int n = 1; n <= 10; n++) {
            EDGES.fine(all, "event " + n + " = " + n + " cue 1;");
        }
        all.advance(10);
        EDGES.same("all ten have come", all.state(2), 1);
        all.advance(5);
        EDGES.same("from the FADE CLOCK at the tenth on", all.state(2), 1);
        all.advance(1);
        EDGES.same("followed", all.state(2), 2);
    }

    private static void eventsAheadOfFollow() {
        EDGES.sentence("the CLOCK is 1 more; EVENTS; the FADE CLOCK is 1 more, and CURRENT is FOLLOWED");
        LightDesk desk = Checks.desk("cue 1 follow 5; cue 2; cue 9 follow 1; cue 10; event 1 = 5 cue 9;");
        desk.go();
        desk.advance(5);
        EDGES.same("the event is ahead, and followed in the same tenth", desk.state(2), 10);
        LightDesk fade = Checks.desk(RIG, "1 @ 1000; record 1 up 10; clear; event 1 = 5 cue 1;");
        fade.advance(5);
        EDGES.same("its begin is the FADE CLOCK as it was", fade.level(1, 0), 100);
    }

    private static void rollers() {
        EDGES.sentence("each tenth POSITION of each patched roller goes towards its LEVEL of roll, 40 at most");
        int[] levels = {0, 1, 39, 40, 41, 80, 1000};
        for (int level : levels) {
            LightDesk desk = Checks.desk("patch 40 roller at 1; 40 roll " + level + ";");
            EDGES.same("a text moves nothing", desk.unit(40, 6), 0);
            desk.advance(0);
            EDGES.same("no time moves nothing", desk.unit(40, 6), 0);
            desk.advance(1);
            EDGES.same("to " + level, desk.unit(40, 6), Math.min(40, level));
            desk.advance(24);
            EDGES.same("to " + level, desk.unit(40, 6), level);
            desk.advance(1);
            EDGES.same("and no farther", desk.unit(40, 6), level);
            EDGES.fine(desk, "40 roll 0;");
            desk.advance(1);
            EDGES.same("back from " + level, desk.unit(40, 6), Math.max(0, level - 40));
            desk.advance(600);
            EDGES.same("back at 0", desk.unit(40, 6), 0);
        }
        EDGES.sentence("of each patched roller: others have no POSITION but 0");
        LightDesk other = Checks.desk("patch 1 lamp at 1; patch 2 spot at 10; patch 3 roller at 30; "
            + "wave 1 = step roll size 1000 rate 500 spread 0 on all; all @ full;");
        other.run(1, true);
        other.advance(1);
        EDGES.same("a lamp", other.unit(1, 6), 0);
        EDGES.same("a spot", other.unit(2, 6), 0);
        EDGES.same("a roller", other.unit(3, 6), 40);
        EDGES.sentence("it stays through unpatch and undo(); patch alone makes it 0");
        EDGES.fine(other, "unpatch 3;");
        other.advance(5);
        EDGES.same("not patched", other.unit(3, 6), -1);
        other.undo();
        EDGES.same("patched again by undo()", other.unit(3, 6), 40);
        EDGES.fine(other, "unpatch 3; patch 3 lamp at 30;");
        EDGES.same("patched as another kind", other.unit(3, 6), 0);
        other.undo();
        EDGES.same("undo() leaves it", other.unit(3, 6), 0);
    }

    private static void behindTexts() {
        EDGES.sentence("Behind each text: wherever the LEVEL of what is TRACKED in CURRENT is not the GOAL, it is the GOAL, "
            + "and the CUE LEVEL at once");
        LightDesk desk = Checks.desk(RIG, "1 @ 1000; 3 pan 1000; record 5 up 100 move 100; clear;");
        desk.go();
        desk.advance(50);
        EDGES.fine(desk, "blind 5; 3 pan 600; live;");
        EDGES.same("the one that changes, at once", desk.level(3, 4), 600);
        EDGES.same("the one that does not goes on", desk.level(1, 0), 500);
        EDGES.same("one fades", desk.state(8), 1);
        EDGES.fine(desk, "blind 5; 1 @ 999; 1 @ 1000; live;");
        EDGES.same("changed and changed back in one text: it goes on", desk.level(1, 0), 500);
        EDGES.fine(desk, "blind 5; 1 @ 999; live;");
        EDGES.same("changed by one", desk.level(1, 0), 999);
        EDGES.sentence("Behind each text, with a FAULT, too");
        Checks.text(desk, "blind 5; 1 @ 700; live; nothing;");
        EDGES.same("at once", desk.level(1, 0), 700);
        EDGES.sentence("a cue of a greater number than CURRENT counts not");
        EDGES.fine(desk, "cue 6; blind 6; 1 @ 5; live;");
        EDGES.same("it stays", desk.level(1, 0), 700);
        EDGES.sentence("a cue ahead of CURRENT counts, where CURRENT has no change");
        EDGES.fine(desk, "cue 4; blind 4; 2 @ 5; 1 @ 5; live;");
        EDGES.same("where it has none", desk.level(2, 0), 5);
        EDGES.same("where it has one", desk.level(1, 0), 700);
        EDGES.sentence("HOME, where nothing is TRACKED");
        EDGES.fine(desk, "delete 5; delete 4;");
        EDGES.same("dim", desk.level(1, 0), 0);
        EDGES.same("pan", desk.level(3, 4), 500);
    }

    private static void behindUndo() {
        EDGES.sentence("Behind undo(): likewise");
        LightDesk desk = Checks.desk(RIG, "1 @ 1000; record 5 up 100; clear;");
        desk.go();
        desk.advance(10);
        EDGES.fine(desk, "2 @ 5;");
        desk.undo();
        EDGES.same("the GOAL is the same: it goes on", desk.level(1, 0), 100);
        desk.undo();
        EDGES.same("the GOAL is HOME, at once", desk.level(1, 0), 0);
        EDGES.same("none fades", desk.state(8), 0);
        EDGES.same("CURRENT", desk.state(2), 5);
    }

    private static void textsWithoutCues() {
        EDGES.sentence("HOME, if CURRENT is 0");
        LightDesk desk = Checks.desk(RIG, "1 @ 1000; 3 pan 3; record 1; clear;");
        EDGES.same("dim", desk.level(1, 0), 0);
        EDGES.same("pan", desk.level(3, 4), 500);
        EDGES.fine(desk, "1 @ 1000; sneak 10;");
        EDGES.same("what sneaks fades to HOME", desk.level(1, 0), 1000);
        desk.advance(5);
        EDGES.same("what sneaks fades to HOME", desk.level(1, 0), 500);
    }
}
