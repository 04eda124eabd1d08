/** Promises 9 to 18: cues taken and followed, the clocks, the masters. */
public final class PlayPromisesTest {
    private static final Checks CHECKS = new Checks("PlayPromisesTest");

    public static void main(String[] args) {
        promise9();
        fades();
        fadesOverOneAnother();
        dark();
        links();
        promise10();
        promise11();
        promise12();
        promise13();
        follows();
        events();
        rollers();
        behindTexts();
        sneaks();
        promise14();
        promise15();
        promise16();
        promise17();
        promise18();
        CHECKS.finish();
    }

    private static void same(String what, long got, long want) {
        CHECKS.same(what, got, want);
    }

    private static LightDesk lampWithCues(String... cues) {
        LightDesk desk = Checks.desk("patch 1 lamp at 1; patch 2 tint at 2; patch 3 head at 10;");
        for (String cue : cues) {
            Checks.text(desk, cue);
            same("fault of " + cue, desk.fault(0), 0);
        }
        return desk;
    }

    private static void promise9() {
        LightDesk desk = lampWithCues();
        same("go without cues", desk.go(), -1);
        desk = lampWithCues("cue 5; cue 2; cue 999;");
        same("go", desk.go(), 2);
        same("go", desk.go(), 5);
        same("go", desk.go(), 999);
        same("go behind the last", desk.go(), -1);
        same("CURRENT stays", desk.state(2), 999);
        Checks.text(desk, "delete 999;");
        same("CURRENT stays, whatever becomes of the cue", desk.state(2), 999);
        same("go", desk.go(), -1);
        Checks.text(desk, "cue 999;");
        same("go at the last", desk.go(), -1);
        desk.jump(2);
        Checks.text(desk, "delete 2; cue 3;");
        same("go from one that is gone", desk.go(), 3);
    }

    private static void fades() {
        LightDesk desk = lampWithCues("1 @ 1000; 3 @ 500 pan 1000; record 1 up 10 down 20 move 5 delay 3; clear;");
        same("go", desk.go(), 1);
        same("fading", desk.state(8), 2);
        same("pan of a dark unit at once", desk.level(3, 4), 1000);
        desk.advance(3);
        same("ahead of the begin", desk.level(1, 0), 0);
        desk.advance(1);
        same("one tenth", desk.level(1, 0), 100);
        same("one tenth", desk.level(3, 0), 50);
        desk.advance(8);
        same("nine tenths", desk.level(1, 0), 900);
        desk.advance(1);
        same("all", desk.level(1, 0), 1000);
        same("none fades", desk.state(8), 0);
        Checks.text(desk, "1 @ 7; 3 pan 0 tilt 1000; record 2 down 7 up 99 move 3 delay 2; clear;");
        desk.go();
        same("begins", desk.level(1, 0), 1000);
        desk.advance(3);
        same("DOWN, MIX cuts towards 0", desk.level(1, 0), 1000 - 993 / 7);
        same("MOVE", desk.level(3, 4), 1000 - 1000 / 3);
        same("MOVE upwards", desk.level(3, 5), 500 + 500 / 3);
        same("what is not changed tracks", desk.level(3, 0), 500);
        desk.advance(2);
        same("MOVE is over", desk.level(3, 4), 0);
        desk.advance(4);
        same("DOWN is over", desk.level(1, 0), 7);
    }

    private static void fadesOverOneAnother() {
        LightDesk desk = lampWithCues("1 @ 1000; record 1 up 100; clear;", "2 @ 500; record 2 up 10; clear;", "1 @ 0; record 3 down 10; clear;",
            "1 @ 600; record 4 up 30 down 10; clear;");
        desk.go();
        desk.advance(50);
        same("half", desk.level(1, 0), 500);
        desk.go();
        desk.advance(10);
        same("goes on as it did", desk.level(1, 0), 600);
        same("the other", desk.level(2, 0), 500);
        desk.go();
        desk.advance(5);
        same("from where it was", desk.level(1, 0), 300);
        same("go to 4", desk.go(), 4);
        desk.advance(15);
        same("UP, as it is above", desk.level(1, 0), 450);
        desk.jump(1);
        same("jump fades", desk.level(1, 0), 450);
        desk.advance(50);
        same("jump fades", desk.level(1, 0), 725);
    }

    private static void dark() {
        LightDesk desk = lampWithCues("3 pan 0 @ 500; record 1 up 10 move 10; clear; 3 pan 1000 @ 0; record 2 down 10 move 10; clear; 3 pan 200; record 3 move 10; clear;");
        desk.go();
        same("dark: at once", desk.level(3, 4), 0);
        desk.advance(10);
        desk.go();
        same("its GOAL is not 0: not dark", desk.level(3, 4), 0);
        desk.advance(5);
        same("moves", desk.level(3, 4), 500);
        desk.advance(4);
        desk.go();
        same("its CUE LEVEL is not 0, so it is not dark", desk.level(3, 4), 900);
        desk.advance(20);
        same("moved", desk.level(3, 4), 200);
        desk.jump(1);
        desk.advance(1);
        same("dark again: at once", desk.level(3, 4), 0);
        desk.jump(2);
        desk.advance(30);
        desk.jump(3);
        same("dark: at once", desk.level(3, 4), 200);
        LightDesk held = lampWithCues("3 pan 1000; record 1 move 10; clear; 3 @ 500;");
        held.go();
        Checks.text(held, "clear;");
        same("the programmer does not make it light", held.level(3, 4), 1000);
        LightDesk again = lampWithCues("3 @ 500; record 1; clear; 3 @ 0 pan 0; record 2 move 10 delay 5; clear;");
        again.go();
        again.go();
        again.advance(4);
        same("DELAY", again.level(3, 0), 500);
        same("DELAY of what is not dark", again.level(3, 4), 500);
    }

    private static void links() {
        LightDesk desk = lampWithCues("cue 1 link 5; cue 2; cue 3 link 4; cue 5 link 1; cue 6 link 6;");
        same("the first", desk.go(), 1);
        same("link", desk.go(), 5);
        same("link back", desk.go(), 1);
        desk.jump(3);
        same("a link to none: the least above", desk.go(), 5);
        desk.jump(6);
        same("a link to itself", desk.go(), 6);
        Checks.text(desk, "cue 6 loose;");
        same("loose", desk.go(), -1);
        Checks.text(desk, "cue 6 link 2;");
        same("link from the last", desk.go(), 2);
        desk.jump(1);
        Checks.text(desk, "delete 1;");
        same("the link is gone with the cue", desk.go(), 2);
    }

    private static void promise10() {
        LightDesk desk = lampWithCues("1 @ 500; record 2 up 10 delay 5; 1 @ 700; record 5 up 10; clear; cue 9 link 2;");
        same("back at first", desk.back(), -1);
        same("CURRENT stays", desk.state(2), 0);
        desk.go();
        same("back from the first", desk.back(), -1);
        same("CURRENT stays", desk.state(2), 2);
        same("goes on as it did", desk.level(1, 0), 0);
        desk.jump(9);
        same("back", desk.back(), 5);
        desk.advance(4);
        same("its GOAL is the same, what fades goes on", desk.state(8), 0);
        same("back", desk.back(), 2);
        same("at once", desk.level(1, 0), 500);
        Checks.text(desk, "cue 1; delete 2;");
        same("back from one that is gone", desk.back(), 1);
        same("at once", desk.level(1, 0), 0);
        LightDesk other = lampWithCues("1 @ 500; record 2; cue 3; 1 @ 900; record 4 up 10; clear;");
        other.jump(3);
        other.jump(4);
        other.advance(5);
        same("half", other.level(1, 0), 700);
        other.back();
        same("at once in a fade", other.level(1, 0), 500);
        LightDesk same = lampWithCues("1 @ 900; record 1 up 10; cue 2; clear;");
        same.go();
        same.advance(5);
        same.go();
        same.back();
        same("if g is the GOAL what fades goes on, even at once", same.level(1, 0), 450);
        LightDesk followed = lampWithCues("cue 1 follow 0; cue 2; cue 3;");
        followed.jump(2);
        same("followed behind back", followed.back(), 2);
    }

    private static void promise11() {
        LightDesk desk = lampWithCues("cue 3; cue 7 follow 0 link 3;");
        same("jump to none", desk.jump(4), -2);
        same("jump 0", desk.jump(0), -2);
        same("jump -1", desk.jump(-1), -2);
        same("jump 1000", desk.jump(1000), -2);
        same("jump greatest", desk.jump(Integer.MAX_VALUE), -2);
        same("jump least", desk.jump(Integer.MIN_VALUE), -2);
        same("CURRENT stays", desk.state(2), 0);
        same("jump 3", desk.jump(3), 3);
        same("jump 3 again", desk.jump(3), 3);
        same("jump and followed", desk.jump(7), 3);
    }

    private static void promise12() {
        LightDesk desk = lampWithCues("1 @ 1000; record 1 up 10 follow 8; clear; cue 2;");
        CHECKS.same("hold", desk.hold(true), false);
        CHECKS.same("hold", desk.hold(true), true);
        desk.go();
        same("the CLOCK goes", desk.advance(5), 5);
        same("the FADE CLOCK not", desk.state(1), 0);
        same("no fade", desk.level(1, 0), 0);
        CHECKS.same("hold", desk.hold(false), true);
        CHECKS.same("hold", desk.hold(false), false);
        desk.advance(5);
        same("FADE CLOCK", desk.state(1), 5);
        same("fade", desk.level(1, 0), 500);
        desk.hold(true);
        desk.advance(100);
        same("fade", desk.level(1, 0), 500);
        same("not followed with HOLD", desk.state(2), 1);
        desk.hold(false);
        desk.advance(3);
        same("followed by the FADE CLOCK", desk.state(2), 2);
        LightDesk other = lampWithCues("cue 1 follow 0; cue 2; cue 5; event 1 = 3 cue 5;");
        other.hold(true);
        same("with HOLD go is followed, too", other.go(), 2);
        other.advance(3);
        same("events with HOLD", other.state(2), 5);
    }

    private static void promise13() {
        LightDesk desk = new LightDesk();
        same("advance 0", desk.advance(0), 0);
        same("advance 600", desk.advance(600), 600);
        same("advance 601", desk.advance(601), -4);
        same("advance -1", desk.advance(-1), -4);
        same("advance least", desk.advance(Integer.MIN_VALUE), -4);
        same("advance greatest", desk.advance(Integer.MAX_VALUE), -4);
        same("advance 1", desk.advance(1), 601);
        same("CLOCK", desk.state(0), 601);
        same("FADE CLOCK", desk.state(1), 601);
    }

    private static void follows() {
        LightDesk desk = lampWithCues("cue 1 follow 5; cue 2 follow 3 link 1; cue 9;");
        desk.advance(7);
        same("go", desk.go(), 1);
        desk.advance(4);
        same("not yet", desk.state(2), 1);
        desk.advance(1);
        same("followed", desk.state(2), 2);
        desk.advance(3);
        same("followed by LINK", desk.state(2), 1);
        desk.advance(4);
        desk.jump(1);
        desk.advance(4);
        same("from the new BEGINNING", desk.state(2), 1);
        Checks.text(desk, "cue 1 follow 3;");
        desk.advance(10);
        same("passed already: never", desk.state(2), 1);
        LightDesk chain = lampWithCues("cue 1 follow 0; cue 2 follow 0; cue 3 follow 2; cue 4;");
        same("a chain at once", chain.go(), 3);
        chain.advance(2);
        same("and then", chain.state(2), 4);
        chain.advance(20);
        same("none behind it", chain.state(2), 4);
        LightDesk circle = lampWithCues("cue 1 follow 0 link 2; cue 2 follow 0 link 3; cue 3 follow 0 link 1; cue 4;");
        same("one, and 30 times", circle.go(), 1);
        circle.advance(1);
        same("one tenth later BEGINNING is not that", circle.state(2), 1);
        same("go again: 2, and 30 times", circle.go(), 2);
        LightDesk last = lampWithCues("cue 1 follow 0;");
        same("no NEXT", last.go(), 1);
        LightDesk gone = lampWithCues("cue 1 follow 4; cue 2;");
        gone.go();
        gone.advance(2);
        Checks.text(gone, "delete 1;");
        gone.advance(10);
        same("no cue CURRENT, not followed", gone.state(2), 1);
        LightDesk beginning = lampWithCues("1 @ 1000; record 1 up 4 follow 2; 1 @ 0; record 2 down 10; clear;");
        beginning.go();
        beginning.advance(2);
        same("followed at half", beginning.level(1, 0), 500);
        beginning.advance(5);
        same("fades from there", beginning.level(1, 0), 250);
    }

    private static void events() {
        LightDesk desk = lampWithCues("cue 1; cue 2 follow 0; cue 3; event 4 = 5 cue 1; event 3 = 5 cue 7; event 9 = 5 cue 2; event 1 = 0 cue 1; event 2 = 6 cue 1;");
        desk.advance(4);
        same("not yet", desk.state(2), 0);
        desk.advance(1);
        same("by numbers, and followed", desk.state(2), 3);
        desk.advance(1);
        same("the next", desk.state(2), 1);
        Checks.text(desk, "event 5 = 6 cue 3; event 6 = 8 cue 3; event 6 = none;");
        desk.advance(10);
        same("passed or none", desk.state(2), 1);
        Checks.text(desk, "event 1 = 20 cue 2; delete 2;");
        desk.advance(10);
        same("its cue is not there", desk.state(2), 1);
        LightDesk fade = lampWithCues("1 @ 1000; record 1 up 10; clear; event 1 = 3 cue 1;");
        fade.advance(3);
        same("taken ahead of the FADE CLOCK's step", fade.level(1, 0), 100);
        LightDesk follow = lampWithCues("cue 1 follow 1; cue 2; event 1 = 3 cue 1;");
        follow.advance(3);
        same("and followed in the same tenth", follow.state(2), 2);
    }

    private static void rollers() {
        LightDesk desk = Checks.desk("patch 1 roller at 1; patch 2 roller at 3; 1 roll 100;");
        desk.advance(1);
        same("40 at most", desk.unit(1, 6), 40);
        desk.advance(1);
        same("80", desk.unit(1, 6), 80);
        desk.advance(1);
        same("to its LEVEL", desk.unit(1, 6), 100);
        same("the other stays", desk.unit(2, 6), 0);
        Checks.text(desk, "1 roll 10;");
        desk.advance(1);
        same("downwards", desk.unit(1, 6), 60);
        desk.hold(true);
        desk.advance(1);
        same("with HOLD, too", desk.unit(1, 6), 20);
        desk.hold(false);
        Checks.text(desk, "unpatch 1;");
        desk.advance(5);
        same("not patched", desk.unit(1, 6), -1);
        desk.undo();
        same("it stays", desk.unit(1, 6), 20);
        Checks.text(desk, "unpatch 1; patch 1 roller at 1;");
        same("patch makes it 0", desk.unit(1, 6), 0);
        desk.undo();
        same("undo leaves it", desk.unit(1, 6), 0);
        LightDesk faded = Checks.desk("patch 1 roller at 1; 1 @ 5 roll 1000; record 1 move 10; 1 roll 0; record 2 move 2; clear;");
        faded.go();
        faded.advance(30);
        same("a dark one jumps", faded.unit(1, 6), 1000);
        faded.go();
        faded.advance(1);
        same("behind the FADE CLOCK's step", faded.level(1, 8), 500);
        same("40 at most", faded.unit(1, 6), 960);
        LightDesk waved = Checks.desk("patch 1 roller at 1; wave 1 = saw roll size 1000 rate 30 spread 0 on 1;");
        waved.run(1, true);
        waved.advance(2);
        same("by its LEVEL with waves, at the new CLOCK", waved.unit(1, 6), 60);
    }

    private static void behindTexts() {
        LightDesk desk = lampWithCues("1 @ 1000; record 1 up 10; clear;");
        desk.go();
        desk.advance(5);
        Checks.text(desk, "2 @ 5; clear;");
        same("the GOAL is the same: goes on", desk.level(1, 0), 500);
        Checks.text(desk, "blind 1; 1 @ 800; live;");
        same("at once", desk.level(1, 0), 800);
        same("no fade", desk.state(8), 0);
        desk.undo();
        same("undo: at once", desk.level(1, 0), 1000);
        Checks.text(desk, "delete 1;");
        same("HOME at once", desk.level(1, 0), 0);
        Checks.text(desk, "palette 1 = dim 300; cue 1; blind 1; 1 @ from 1;");
        same("from a palette", desk.level(1, 0), 300);
        Checks.text(desk, "palette 1 = dim 400;");
        same("a palette that changes", desk.level(1, 0), 400);
        Checks.text(desk, "palette 1 = none;");
        same("HOME if it has none", desk.level(1, 0), 0);
        Checks.text(desk, "cue 2; blind 2; 1 @ 50; live;");
        same("a cue behind CURRENT counts not", desk.level(1, 0), 0);
        Checks.text(desk, "2 @ 7; record 1; nothing;");
        Checks.text(desk, "clear;");
        same("a faulty text, too", desk.level(2, 0), 7);
    }

    private static void sneaks() {
        LightDesk desk = lampWithCues("1 @ 800; 3 @ 500; record 1; clear;");
        desk.go();
        Checks.text(desk, "1 @ 300; 2 red 0; sneak 10;");
        same("the programmer is empty", desk.state(7), 0);
        same("from that value", desk.level(1, 0), 300);
        same("two fade", desk.state(8), 2);
        desk.advance(5);
        same("half", desk.level(1, 0), 550);
        same("half", desk.level(2, 1), 500);
        desk.advance(5);
        same("all", desk.level(1, 0), 800);
        Checks.text(desk, "palette 1 = dim 100; 1 @ from 1; sneak 4;");
        same("from a palette", desk.level(1, 0), 100);
        desk.advance(1);
        same("a quarter", desk.level(1, 0), 275);
        Checks.text(desk, "1 @ 0; sneak 0;");
        same("in no time", desk.level(1, 0), 800);
        desk.hold(true);
        Checks.text(desk, "1 @ 10; sneak 5;");
        desk.advance(10);
        same("by the FADE CLOCK", desk.level(1, 0), 10);
        desk.undo();
        same("the programmer is back", desk.held(1, 0), -1);
        LightDesk changed = lampWithCues("1 @ 800; record 1; clear;");
        changed.go();
        Checks.text(changed, "blind 1; 1 @ 600; live; 1 @ 100; sneak 10;");
        same("the GOAL changes behind the text: at once", changed.level(1, 0), 600);
    }

    private static void promise14() {
        LightDesk desk = lampWithCues("sub 1 with 1 @ 800; sub 8 with 1 @ 500;");
        same("fader", desk.fader(1, 500), 0);
        same("fader", desk.fader(1, 600), 500);
        same("fader", desk.fader(1, 1001), -4);
        same("fader", desk.fader(1, -1), -4);
        same("fader", desk.fader(0, 5), -2);
        same("fader", desk.fader(9, 5), -2);
        same("no such sub ahead of no level", desk.fader(9, -1), -2);
        same("fader", desk.fader(Integer.MIN_VALUE, Integer.MAX_VALUE), -2);
        same("level", desk.level(1, 0), 480);
        same("fader", desk.fader(8, 1000), 0);
        same("level", desk.level(1, 0), 500);
        same("fader", desk.fader(1, 0), 600);
        desk.undo();
        same("undo leaves it", desk.fader(8, 1000), 1000);
    }

    private static void promise15() {
        LightDesk desk = lampWithCues("sub 2 with 1 @ 700; sub 8 with 2 @ 600;");
        same("bump", desk.bump(2, true), 0);
        same("level", desk.level(1, 0), 700);
        same("bump", desk.bump(2, true), 1);
        same("bump", desk.bump(2, false), 1);
        same("bump", desk.bump(2, false), 0);
        same("level", desk.level(1, 0), 0);
        same("bump", desk.bump(8, true), 0);
        same("level", desk.level(2, 0), 600);
        same("bump", desk.bump(0, true), -2);
        same("bump", desk.bump(9, true), -2);
        same("bump", desk.bump(-5, false), -2);
        same("the FADER is not changed", desk.fader(8, 0), 0);
    }

    private static void promise16() {
        LightDesk desk = lampWithCues("1 @ 500;");
        same("grand", desk.grand(500), 1000);
        same("shown", desk.shown(1), 250);
        same("level", desk.level(1, 0), 500);
        same("grand", desk.grand(0), 500);
        same("shown", desk.shown(1), 0);
        same("grand", desk.grand(1001), -4);
        same("grand", desk.grand(-1), -4);
        same("grand", desk.grand(1000), 0);
        same("shown", desk.shown(1), 500);
    }

    private static void promise17() {
        LightDesk desk = lampWithCues("1 @ 500;");
        CHECKS.same("black", desk.black(true), false);
        same("shown", desk.shown(1), 0);
        same("level", desk.level(1, 0), 500);
        CHECKS.same("black", desk.black(true), true);
        CHECKS.same("black", desk.black(false), true);
        CHECKS.same("black", desk.black(false), false);
        same("shown", desk.shown(1), 500);
    }

    private static void promise18() {
        LightDesk desk = lampWithCues("wave 1 = saw dim size 1000 rate 10 spread 0 on 1;");
        same("run", desk.run(0, true), -2);
        same("run", desk.run(5, true), -2);
        same("run", desk.run(-1, false), -2);
        same("run of none", desk.run(4, true), 0);
        same("run of none", desk.run(4, true), 1);
        desk.advance(20);
        same("does not run", desk.level(1, 0), 0);
        same("run", desk.run(1, true), 0);
        same("runs by the CLOCK", desk.level(1, 0), 200);
        same("run", desk.run(1, false), 1);
        same("does not run", desk.level(1, 0), 0);
        Checks.text(desk, "wave 4 = step dim size 50 rate 0 spread 1000 on 2 + 1;");
        same("it runs once it is", desk.level(1, 0), 50);
    }
}
