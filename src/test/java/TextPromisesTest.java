/** Promises 1 to 8: a new object, the tape, texts with their faults, undo and save. */
public final class TextPromisesTest {
    private static final Checks CHECKS = new Checks("TextPromisesTest");
    private static final String RIG =
        "patch 1 lamp at 1; patch 2 tint at 2; patch 3 head at 10; patch 4 spot at 20; patch 5 roller at 30;";

    public static void main(String[] args) {
        promise1();
        promise2();
        promise3();
        promise4();
        promise5();
        faultsOfText();
        faultsTwice();
        faultsOfTokens();
        faultsOfNumbers();
        faultsOfCues();
        faultsOfSlotsAndSets();
        faultsInOrder();
        sets();
        whats();
        promise6();
        promise7();
        savedReadAgain();
        promise8();
        CHECKS.finish();
    }

    private static void same(String what, long got, long want) {
        CHECKS.same(what, got, want);
    }

    /** The text is entered; it has that many statements done, that fault (0: none) at that place. */
    private static void entered(LightDesk desk, String text, int done, int fault, int place) {
        same("done of " + text, Checks.text(desk, text), done);
        same("fault of " + text, desk.fault(0), fault);
        same("place of " + text, desk.fault(1), place);
    }

    private static void fine(LightDesk desk, String text, int done) {
        entered(desk, text, done, 0, -1);
    }

    /** A text of one statement that has a fault where the sign ^ stands (it is taken out). */
    private static void faulty(LightDesk desk, String marked, int fault) {
        int place = marked.indexOf('^');
        entered(desk, marked.substring(0, place) + marked.substring(place + 1), 0, fault, place);
    }

    private static void promise1() {
        LightDesk desk = new LightDesk();
        for (int what = 0; what <= 9; what++) {
            same("state of a new one " + what, desk.state(what), what == 6 ? -1 : 0);
        }
        same("fault 0", desk.fault(0), 0);
        same("fault 1", desk.fault(1), -1);
        for (int unit = 1; unit <= 40; unit++) {
            same("kind", desk.unit(unit, 0), -1);
            for (int parameter = 0; parameter < 9; parameter++) {
                same("held", desk.held(unit, parameter), -1);
                same("level", desk.level(unit, parameter), -2);
            }
            for (int s = 1; s <= 8; s++) {
                same("sub", desk.sub(s, unit), -1);
            }
        }
        for (int slot = 1; slot <= 200; slot++) {
            same("slot", desk.slot(slot), 0);
            same("park", desk.park(slot), -1);
        }
        for (int i = 1; i <= 12; i++) {
            same("group", desk.group(i, 0), -1);
            same("palette", desk.palette(i, 0), -1);
        }
        for (int s = 1; s <= 8; s++) {
            same("masters", desk.masters(s), 0);
            same("fader", desk.fader(s, 0), 0);
            same("bump", desk.bump(s, false), 0);
        }
        for (int i = 1; i <= 10; i++) {
            same("event", desk.event(i, 0), -1);
        }
        for (int w = 1; w <= 4; w++) {
            same("wave", desk.wave(w, 0), -1);
            same("run", desk.run(w, false), 0);
        }
        same("grand", desk.grand(1000), 1000);
        same("black", desk.black(false) ? 1 : 0, 0);
        same("hold", desk.hold(false) ? 1 : 0, 0);
        same("go", desk.go(), -1);
        same("back", desk.back(), -1);
        same("undo", desk.undo(), -1);
        same("save", desk.save(), 0);
        same("tracked", desk.tracked(0, 1, 4), 500);
        same("two objects share nothing", Checks.text(new LightDesk(), RIG), 5);
        same("two objects share nothing", desk.state(4), 0);
    }

    private static void promise2() {
        LightDesk desk = new LightDesk();
        same("feed", desk.feed(0x01020304, 0x7f80ff00, -1, Integer.MIN_VALUE, 'z'), 20);
        int[] due = {1, 2, 3, 4, 127, 128, 255, 0, 255, 255, 255, 255, 128, 0, 0, 0, 0, 0, 0, 'z'};
        for (int i = 0; i < 20; i++) {
            same("tape " + i, desk.tape(i), due[i]);
        }
        for (int i = 2; i <= 300; i++) {
            same("feed " + i, desk.feed(0, 0, 0, 0, 0), i * 20);
        }
        same("feed beyond 6000", desk.feed(1, 1, 1, 1, 1), -1);
        same("the tape stays", desk.state(9), 6000);
        same("end", desk.end(5981), 5981);
        same("feed beyond 6000", desk.feed(1, 1, 1, 1, 1), -1);
        same("end", desk.end(5980), 5980);
        same("feed up to 6000", desk.feed(0x05060708, 1, 1, 1, 1), 6000);
        same("tape", desk.tape(5980), 5);
    }

    private static void promise3() {
        LightDesk desk = new LightDesk();
        same("end 0 of none", desk.end(0), 0);
        same("end 1 of none", desk.end(1), -1);
        desk.feed(1, 2, 3, 4, 5);
        same("end 21", desk.end(21), -1);
        same("end -1", desk.end(-1), -1);
        same("end least", desk.end(Integer.MIN_VALUE), -1);
        same("end greatest", desk.end(Integer.MAX_VALUE), -1);
        same("stays", desk.state(9), 20);
        same("end 20", desk.end(20), 20);
        same("end 7", desk.end(7), 7);
        same("tape 6", desk.tape(6), 0);
        same("tape 7", desk.tape(7), -1);
        same("end 8", desk.end(8), -1);
        same("feed comes behind", desk.feed(9 << 24, 0, 0, 0, 0), 27);
        same("tape 7", desk.tape(7), 9);
    }

    private static void promise4() {
        LightDesk desk = new LightDesk();
        fine(desk, "", 0);
        fine(desk, " \n  ", 0);
        fine(desk, "live;", 1);
        fine(desk, "  live ;\n\nclear  ;live;", 3);
        same("the tape is empty", desk.state(9), 0);
        same("enter of none", desk.enter(), 0);
        fine(desk, "patch 1lamp at 7;1@500;", 2);
        same("no blank is needed", desk.held(1, 0), 500);
        fine(desk, "patch 0002 fine at 0010 limit 0900;", 1);
        same("zeros ahead", desk.unit(2, 2), 900);
        entered(desk, "1 @ 600; 1 @ 700; 1 @ 1001; 1 @ 800;", 2, 3, 22);
        same("those ahead are done", desk.held(1, 0), 700);
        same("the tape is empty behind a fault", desk.state(9), 0);
        fine(desk, "live;", 1);
        same("the latest enter alone", desk.fault(1), -1);
    }

    private static void promise5() {
        LightDesk desk = new LightDesk();
        Checks.text(desk, "  live; nothing;");
        same("fault 0", desk.fault(0), 1);
        same("fault 1", desk.fault(1), 8);
        same("fault 2", desk.fault(2), -1);
        same("fault -1", desk.fault(-1), -1);
        desk.undo();
        desk.save();
        same("undo leaves it", desk.fault(0), 1);
        same("undo leaves it", desk.fault(1), 8);
        desk.enter();
        same("enter of nothing", desk.fault(0), 0);
        same("enter of nothing", desk.fault(1), -1);
    }

    private static void faultsOfText() {
        LightDesk desk = Checks.desk(RIG, "1 @ 5; record 5; record 7;", "group 1 = 1 + 2;");
        String[] marked = {
            "^;", "^at;", "^lamp;", "^+ 1 @ 5;", "patch ^;", "patch 1 ^dim at 5;", "patch 6 lamp ^5;", "patch 6 lamp at ^;",
            "patch 6 lamp at 5 ^at;", "patch 6 lamp at 5 limit ^;", "patch 6 lamp at 5 limit ^invert;", "patch 6 lamp at 5 invert ^1;",
            "unpatch ^;", "unpatch 1 ^@;", "unpatch 1 + ^;", "unpatch 1 thru ^;", "unpatch group ^;", "unpatch 1 - ^- 2;",
            "1 ^;", "1 thru 2 ^;", "1 ^2 @ 5;", "1 @ ^;", "1 @ ^@;", "1 @ 5 thru ^;", "1 @ + ^full;", "1 @ - ^- 5;", "1 @ from ^full;",
            "1 palette ^;", "1 @ full ^5;", "1 home ^5;", "1 red ^red;", "1 ^= 5;", "group 1 ^;", "group 1 = ^;", "group 1 = 1 ^home;",
            "group ^group 1;", "palette ^= none;", "palette 1 ^none;", "palette 1 = ^;", "palette 1 = none ^dim;", "palette 1 = dim ^;",
            "palette 1 = dim 5 ^none;", "palette 1 = dim 5 ^6;", "palette 1 = ^@ 5;", "sub ^;", "sub 1 ^;", "sub 1 ^= none;", "sub 1 with ^;",
            "sub 1 with 1 ^;", "sub 1 with 1 @ ^full;", "sub 1 adds ^masters;", "sub 1 none ^with;", "wave 1 ^none;", "wave 1 = ^dim;",
            "wave 1 = saw ^size;", "wave 1 = saw dim ^rate;", "wave 1 = saw dim size 1 ^spread;", "wave 1 = saw dim size 1 rate 2 ^on;",
            "wave 1 = saw dim size 1 rate 2 spread 3 ^;", "wave 1 = saw dim size 1 rate 2 spread 3 on ^;", "wave 1 = none ^on;",
            "cue ^;", "cue 1 ^2;", "cue 1 up ^;", "cue 1 ^only;", "cue 1 stay ^5;", "cue 1 loose ^5;", "cue 1 link ^loose;",
            "record ^only;", "record 1 up 5 ^only;", "record 1 only ^only;", "update ^5;", "delete ^;", "delete 5 ^6;", "copy 5 ^6;", "copy 5 to ^;",
            "copy 5 to 6 ^up;", "block ^;", "unblock ^;", "blind ^none;", "live ^5;", "clear ^all;", "sneak ^;", "sneak 5 ^6;", "park ^all;",
            "park 5 ^5;", "park 5 @ ^;", "park 5 @ ^full;", "unpark ^;", "unpark all ^5;", "event 1 ^5;", "event 1 = ^cue 5;", "event 1 = 5 ^;",
            "event 1 = 5 cue ^;", "event 1 = none ^cue;", "all ^;", "all + ^;", "all - ^@ 5;", "1 @ ^none;",
            "1 ^saw 5;", "1 ^roller 5;", "palette 1 = ^saw 5;", "palette 1 = ^roller 5;", "palette 1 = dim 5 ^saw 5;", "wave 1 = ^up dim size 1 rate 2 spread 3 on 1;",
            "wave 1 = ^roll dim size 1 rate 2 spread 3 on 1;", "wave 1 = saw ^saw size 1 rate 2 spread 3 on 1;", "cue 5 ^limit;", "cue 5 ^step 5;",
            "patch 6 lamp at 100 ^loose;", "patch 6 lamp at 100 ^patch;", "patch 6 ^red at 100;", "^swap;", "^at;", "^release;", "1 @ 5 ^+ 6;"};
        for (String text : marked) {
            faulty(desk, text, 1);
        }
        String[] unended = {"live", "patch", "1 @ 5", "1 @ 5 ", "group 1 =", "cue 5 up", "1 @ 5\n\n ", "all"};
        for (String text : unended) {
            entered(desk, text, 0, 1, text.length());
        }
        entered(desk, "live;patch ", 1, 1, 11);
        same("nothing was done of these", desk.held(1, 0), 5);
        Checks.put(desk, "livex;");
        desk.end(4);
        same("what was cut off is not read", desk.enter(), 0);
        same("what was cut off is not read", desk.fault(1), 4);
        Checks.put(desk, "1 @ 67;");
        desk.end(5);
        desk.enter();
        same("what was cut off is not read", desk.fault(1), 5);
    }

    private static void faultsTwice() {
        LightDesk desk = Checks.desk(RIG, "1 @ 5;");
        String[] marked = {
            "cue 5 up 1 ^up 1;", "cue 5 up 1 down 2 move 3 delay 4 follow 5 link 6 ^down 2;", "cue 5 move 1 ^move 1;", "cue 5 delay 1 ^delay 1;",
            "cue 5 follow 1 ^follow 1;", "cue 5 follow 1 ^stay;", "cue 5 stay ^follow 1;", "cue 5 stay ^stay;", "cue 5 link 1 ^link 1;",
            "cue 5 link 1 ^loose;", "cue 5 loose ^link 1;", "cue 5 loose ^loose;", "record 5 only up 1 ^up 1;",
            "patch 6 lamp at 100 limit 5 ^limit 5;", "patch 6 lamp at 100 curve 1 ^curve 1;", "patch 6 lamp at 100 invert ^invert;",
            "patch 6 lamp at 100 swap ^swap;", "palette 1 = dim 5 ^dim 5;", "palette 1 = red 1 green 2 blue 3 ^red 1;"};
        for (String text : marked) {
            faulty(desk, text, 1);
        }
        fine(desk, "cue 5 loose stay delay 4 move 3 down 2 up 1;", 1);
        fine(desk, "patch 6 lamp at 100 swap invert curve 1 limit 5;", 1);
        fine(desk, "1 @ 5 @ 6 @ 7 dim 8 home home;", 1);
    }

    private static void faultsOfTokens() {
        LightDesk desk = Checks.desk(RIG, "1 @ 5;");
        faulty(desk, "^abcdefghij;", 1);
        faulty(desk, "^liv;", 1);
        faulty(desk, "^livee;", 1);
        faulty(desk, "^livex;", 1);
        faulty(desk, "1 @ ^00005;", 1);
        faulty(desk, "^12345 @ 5;", 1);
        faulty(desk, "1 @ ^12345", 1);
        faulty(desk, "^LIVE;", 1);
        faulty(desk, "live^\t;", 1);
        faulty(desk, "live^\r;", 1);
        faulty(desk, "^#;", 1);
        faulty(desk, "live ^" + (char) 0 + ";", 1);
        faulty(desk, "live ^" + (char) 233 + ";", 1);
        faulty(desk, "live ^" + (char) 138 + ";", 1);
        faulty(desk, "1 @ ^*5;", 1);
        faulty(desk, "1 ^: 5;", 1);
        StringBuilder text = new StringBuilder("1");
        for (int i = 0; i < 118; i++) {
            text.append(" home");
        }
        fine(desk, text + ";", 1);
        same("120 tokens are fine", desk.held(1, 0), 0);
        entered(desk, text + " home;", 0, 1, text.length() + 5);
        entered(desk, text + " home home;", 0, 1, text.length() + 6);
        entered(desk, text + " home", 0, 1, text.length() + 5);
        entered(desk, text + " home   ", 0, 1, text.length() + 8);
        entered(desk, "live;" + text + " home\n;", 1, 1, text.length() + 11);
        fine(desk, text + ";" + text + ";", 2);
        fine(desk, "group 1 = 1" + " + 2 - 2".repeat(28) + " + 3;", 1);
        same("58 terms", desk.group(1, 1), 3);
        same("58 terms", desk.group(1, 2), -1);
        faulty(desk, "unpatch 1" + " + 2 - 2".repeat(29) + " + 2^;", 1);
        wholeTapes();
    }

    /** Texts of 6000 bytes, that end in all kinds of tokens. */
    private static void wholeTapes() {
        LightDesk desk = new LightDesk();
        String[] signs = {"a", "1", " ", ";", "live;", "@", "group 1 ", "1 + "};
        int[] places = {0, 0, -1, 0, -1, 0, 8, 0};
        int[] done = {0, 0, 0, 0, 1200, 0, 0, 0};
        for (int i = 0; i < signs.length; i++) {
            Checks.put(desk, signs[i].repeat(6000 / signs[i].length()));
            same("a whole tape", desk.state(9), 6000);
            same("done of " + signs[i], desk.enter(), done[i]);
            same("place of " + signs[i], desk.fault(1), places[i] == 0 && i == 7 ? 4 * 60 : places[i]);
        }
        Checks.put(desk, " ".repeat(5996) + "live");
        desk.enter();
        same("the end at 6000", desk.fault(1), 6000);
        Checks.put(desk, " ".repeat(5995) + "live;");
        same("the last byte counts", desk.enter(), 1);
    }

    private static void faultsOfNumbers() {
        LightDesk desk = Checks.desk(RIG, "1 @ 5; record 5;", "group 1 = 1;");
        String[] marked = {
            "patch ^0 lamp at 100;", "patch ^41 lamp at 100;", "patch 6 lamp at ^0;", "patch 6 lamp at ^201;", "patch 6 lamp at 100 limit ^1001;",
            "patch 6 lamp at 100 curve ^4;", "unpatch ^0;", "unpatch ^41;", "unpatch 1 thru ^41;", "unpatch ^0 thru 1;", "unpatch group ^0;",
            "unpatch group ^13;", "group ^0 = 1;", "group ^13 = 1;", "palette ^0 = none;", "palette ^13 = none;", "palette 1 = dim ^1001;",
            "sub ^0 none;", "sub ^9 none;", "sub ^9 adds;", "sub ^9 masters;", "sub 1 with 1 @ ^1001;", "wave ^0 = none;", "wave ^5 = none;",
            "wave 1 = saw dim size ^1001 rate 1 spread 1 on 1;", "wave 1 = saw dim size 1 rate ^1001 spread 1 on 1;",
            "wave 1 = saw dim size 1 rate 1 spread ^1001 on 1;", "cue ^0;", "cue ^1000;", "cue 5 up ^601;", "cue 5 down ^601;",
            "cue 5 move ^601;", "cue 5 delay ^601;", "cue 5 follow ^601;", "cue 5 link ^0;", "cue 5 link ^1000;", "record ^0;", "record ^1000;",
            "record 5 up ^601;", "copy 5 to ^0;", "copy 5 to ^1000;", "sneak ^601;", "park ^0 @ 5;", "park ^201 @ 5;", "park 5 @ ^256;",
            "unpark ^0;", "unpark ^201;", "event ^0 = none;", "event ^11 = none;", "event 1 = 5 cue ^0;", "event 1 = 5 cue ^1000;",
            "1 @ ^1001;", "1 @ 1 thru ^1001;", "1 @ ^1001 thru 1;", "1 @ from ^0;", "1 @ from ^13;", "1 palette ^0;", "1 palette ^13;",
            "1 @ + ^1001;", "1 @ - ^1001;", "^9999 @ 5;", "5 red ^1001;"};
        for (String text : marked) {
            faulty(desk, text, 3);
        }
        String[] fine = {
            "cue 999 up 600 down 600 move 600 delay 600 follow 600 link 999;", "cue 1;", "park 200 @ 255; park 1 @ 0; unpark 200; unpark 1;",
            "event 10 = 9999 cue 999; event 1 = 0 cue 1;", "sub 8 with 1 @ 1000;", "palette 12 = roll 1000;", "1 @ from 12;", "group 12 = 1;",
            "wave 4 = step roll size 1000 rate 1000 spread 1000 on 1;", "1 @ 1000 thru 1000;", "1 thru 40 @ 0;", "40 thru 1 @ 0;",
            "patch 40 lamp at 200 limit 1000 curve 3;", "sneak 600;", "1 @ + 1000;"};
        for (String text : fine) {
            Checks.text(desk, text);
            same("fault of " + text, desk.fault(0), 0);
        }
    }

    private static void faultsOfCues() {
        LightDesk desk = Checks.desk(RIG, "1 @ 5; record 5;");
        String[] absent = {
            "delete ^6;", "delete ^0;", "delete ^9999;", "copy ^6 to 7;", "copy ^6 to 0;", "block ^6;", "unblock ^0;", "blind ^1000;", "blind ^4;"};
        for (String text : absent) {
            faulty(desk, text, 2);
        }
        faulty(desk, "^update;", 7);
        faulty(desk, "copy 5 to ^5;", 7);
        Checks.text(desk, "clear;");
        faulty(desk, "^record 0 up 700;", 6);
        faulty(desk, "^update;", 6);
        faulty(desk, "^sneak 601;", 6);
        desk.jump(5);
        Checks.text(desk, "1 @ 5; delete 5;");
        faulty(desk, "^update;", 7);
        Checks.text(desk, "cue 4;");
        fine(desk, "update;", 1);
        same("of a cue ahead of CURRENT", desk.change(4, 1, 0), 5);
        Checks.text(desk, "delete 4; cue 6; 1 @ 5;");
        faulty(desk, "^update;", 7);
        LightDesk full = Checks.desk(RIG);
        for (int i = 1; i <= 30; i++) {
            fine(full, "cue " + i * 10 + ";", 1);
        }
        faulty(full, "cue ^5;", 5);
        faulty(full, "cue ^0;", 3);
        faulty(full, "cue ^5 up 700;", 5);
        fine(full, "cue 300 up 5; 1 @ 5; record 10;", 3);
        faulty(full, "record ^11 up 700;", 5);
        faulty(full, "copy 10 to ^11;", 5);
        faulty(full, "copy 10 to ^20;", 7);
        faulty(full, "copy 10 to ^1000;", 3);
        fine(full, "cue 10 link 11; event 1 = 5 cue 11;", 2);
        fine(full, "delete 20; copy 10 to 11;", 2);
        fine(full, "delete 11; copy 10 to 1; delete 1; cue 1;", 4);
        same("thirty again", full.state(3), 30);
        fine(full, "1 @ 77; record 300 only;", 2);
        same("only, of the last of thirty", full.change(300, 1, 0), 77);
    }

    private static void faultsOfSlotsAndSets() {
        LightDesk desk = Checks.desk(RIG);
        String[] slots = {
            "patch 6 fine at ^200;", "patch 6 head at ^195;", "patch 6 spot at ^194;", "patch 6 lamp at ^1;", "patch 6 lamp at ^5;",
            "patch 6 head at ^4;", "patch 6 tint at ^7;", "patch 6 spot at ^17 limit 2000;", "patch 6 glow at ^199;", "patch 6 roller at ^29;"};
        for (String text : slots) {
            faulty(desk, text, 4);
        }
        fine(desk, "patch 6 spot at 193; patch 7 glow at 6; patch 8 lamp at 9; patch 9 relay at 28; patch 10 warm at 29;", 5);
        faulty(desk, "patch ^1 lamp at 0;", 7);
        faulty(desk, "patch ^41 lamp at 1;", 3);
        faulty(desk, "^11 @ 5;", 2);
        faulty(desk, "1 + ^11 @ 5;", 2);
        faulty(desk, "1 - ^11 @ 5;", 2);
        faulty(desk, "group ^3 @ 5;", 2);
        faulty(desk, "1 + group ^3 @ 5;", 2);
        faulty(desk, "^11 thru 20 @ 5;", 6);
        faulty(desk, "^20 thru 11 @ 1001;", 6);
        faulty(desk, "^1 - 1 @ 5;", 6);
        faulty(desk, "^all - all @ 5;", 6);
        faulty(desk, "unpatch ^1 - all;", 6);
        faulty(desk, "group 3 = ^1 - 1;", 6);
        faulty(desk, "sub 3 with ^1 - 1 @ 1001;", 6);
        faulty(desk, "wave 3 = saw dim size 5 rate 5 spread 5 on ^1 - 1;", 6);
        faulty(desk, "1 - 1 - ^50 @ 5;", 3);
        faulty(desk, "unpatch ^11;", 2);
        faulty(new LightDesk(), "^all @ 5;", 6);
        fine(desk, "1 - 1 + 2 @ 5;", 1);
    }

    private static void faultsInOrder() {
        LightDesk desk = Checks.desk(RIG, "1 @ 5; record 5;");
        faulty(desk, "1 @ 2000 red 3000 ^nothing;", 1);
        faulty(desk, "41 @ 5 ^5;", 1);
        faulty(desk, "1 @ ^2000 red 3000;", 3);
        faulty(desk, "^20 @ 2000;", 2);
        faulty(desk, "1 + ^41 + 20 @ 2000;", 3);
        faulty(desk, "patch ^41 lamp at 300 limit 2000;", 3);
        faulty(desk, "patch 6 lamp at ^300 limit 2000;", 3);
        faulty(desk, "patch 6 lamp at 100 limit ^2000;", 3);
        faulty(desk, "wave ^5 = saw dim size 2000 rate 1 spread 1 on 41;", 3);
        faulty(desk, "wave 1 = saw dim size ^2000 rate 1 spread 1 on 41;", 3);
        faulty(desk, "copy ^6 to 1000;", 2);
        faulty(desk, "event ^11 = 5 cue 0;", 3);
        faulty(desk, "cue 5 up ^700 down 700;", 3);
        same("with a fault nothing is done", desk.cue(0, 1), 0);
        faulty(desk, "cue 6 up 5 down ^700;", 3);
        same("with a fault nothing is done", desk.state(3), 1);
        entered(desk, "1 @ 6; 1 @ 7 red 1 green 2000; 1 @ 8;", 1, 3, 25);
        same("what is ahead is done", desk.held(1, 0), 6);
        entered(desk, "patch 6 lamp at 50; 6 @ 5; 7 @ 5;", 2, 2, 27);
    }

    private static String units(LightDesk desk, int group) {
        StringBuilder text = new StringBuilder();
        for (int i = 0; desk.group(group, i) != -1; i++) {
            text.append(i > 0 ? " " : "").append(desk.group(group, i));
        }
        return text.toString();
    }

    private static void sets() {
        LightDesk desk = Checks.desk("patch 9 lamp at 9; patch 2 lamp at 2; patch 5 lamp at 5; patch 7 lamp at 7; patch 3 lamp at 3;");
        String[][] due = {
            {"all", "2 3 5 7 9"}, {"5", "5"}, {"9 + 2", "9 2"}, {"2 thru 6", "2 3 5"}, {"6 thru 1", "5 3 2"}, {"40 thru 1", "9 7 5 3 2"},
            {"7 thru 7", "7"}, {"5 + all", "5 2 3 7 9"}, {"all - 5", "2 3 7 9"}, {"all - 5 + 5", "2 3 7 9 5"}, {"3 + 3 + 3", "3"},
            {"all - 2 thru 4 - 9", "5 7"}, {"9 - 9 + 3", "3"}, {"5 - 7", "5"}, {"7 thru 5 + 2", "7 5 2"}, {"3 - 3 + 9 thru 1", "9 7 5 3 2"}};
        for (String[] row : due) {
            fine(desk, "group 1 = " + row[0] + ";", 1);
            CHECKS.same("set " + row[0], units(desk, 1), row[1]);
        }
        fine(desk, "group 2 = 9 + 3; group 3 = 2 + group 2 + 5; group 4 = all - group 2; group 2 = group 2 + 7;", 4);
        CHECKS.same("group in a set", units(desk, 3), "2 9 3 5");
        CHECKS.same("group taken away", units(desk, 4), "2 5 7");
        CHECKS.same("group of itself", units(desk, 2), "9 3 7");
        fine(desk, "group 2 @ 500;", 1);
        same("a group that begins a statement", desk.held(9, 0), 500);
        same("a group that begins a statement", desk.held(2, 0), -1);
    }

    private static void whats() {
        LightDesk desk = Checks.desk(RIG, "palette 1 = dim 100 red 200 pan 300; palette 2 = iris 5;");
        fine(desk, "all @ 100 thru 500;", 1);
        for (int unit = 1; unit <= 5; unit++) {
            same("thru", desk.held(unit, 0), unit * 100);
        }
        fine(desk, "all pan 0 thru 1000;", 1);
        same("units that have it not are counted, too", desk.held(3, 4), 500);
        same("units that have it not are counted, too", desk.held(4, 4), 750);
        same("passed over", desk.held(1, 4), -1);
        fine(desk, "3 + 1 + 2 @ 1000 thru 0;", 1);
        same("the set's order", desk.held(1, 0), 500);
        fine(desk, "4 thru 1 @ 10 thru 0;", 1);
        same("MIX cuts towards 0", desk.held(3, 0), 7);
        same("MIX cuts towards 0", desk.held(2, 0), 4);
        fine(desk, "1 @ 77 thru 99;", 1);
        same("a single one", desk.held(1, 0), 77);
        fine(desk, "1 @ full; 2 red from 1; 2 @ from 12;", 3);
        same("full", desk.held(1, 0), 1000);
        same("from", desk.held(2, 1), 2001);
        same("from one without levels", desk.held(2, 0), 2012);
        same("its LEVEL is HOME", desk.level(2, 0), 0);
        fine(desk, "clear; all palette 1;", 2);
        same("palette dim", desk.held(1, 0), 2001);
        same("palette red", desk.held(2, 1), 2001);
        same("palette green", desk.held(2, 2), -1);
        same("palette pan", desk.held(4, 4), 2001);
        fine(desk, "clear; 4 palette 1 palette 2 @ 5;", 2);
        same("from the left", desk.held(4, 0), 5);
        same("from the left", desk.held(4, 7), 2002);
        fine(desk, "4 home;", 1);
        int[] home = {0, -1, -1, -1, 500, 500, 0, 1000, -1};
        for (int parameter = 0; parameter < 9; parameter++) {
            same("home " + parameter, desk.held(4, parameter), home[parameter]);
        }
        fine(desk, "4 release wheel 7;", 1);
        same("release", desk.state(7), 1);
        same("release, then more", desk.held(4, 6), 7);
        fine(desk, "clear; 1 @ 600; 1 @ + 100; 2 red - 300; 2 @ - 5 @ + 20; 1 @ + 900;", 6);
        same("more, but 1000", desk.held(1, 0), 1000);
        same("less than the CUE LEVEL", desk.held(2, 1), 700);
        same("but 0, then more", desk.held(2, 0), 20);
        fine(desk, "2 red from 1; 2 red + 50;", 2);
        same("more than a palette's", desk.held(2, 1), 250);
        fine(desk, "clear; cue 1; blind 1; 1 @ 300; 2 red from 1; live; cue 2; blind 2; 1 @ + 50; 2 red + 50 green - 1; live;", 11);
        same("blind: more than what is TRACKED", desk.change(2, 1, 0), 350);
        same("blind: more than what is TRACKED", desk.change(2, 2, 1), 250);
        same("blind: HOME if none", desk.change(2, 2, 2), 999);
        same("blind leaves the programmer", desk.state(7), 0);
        fine(desk, "1 @ 900; blind 1; 1 @ + 5; live;", 4);
        same("blind: of the first cue", desk.change(1, 1, 0), 305);
        same("blind leaves the programmer", desk.held(1, 0), 900);
    }

    private static void promise6() {
        LightDesk desk = new LightDesk();
        same("undo of none", desk.undo(), -1);
        Checks.text(desk, "");
        Checks.text(desk, "nothing;");
        same("nothing done, nothing to undo", desk.state(5), 0);
        same("undo of none", desk.undo(), -1);
        Checks.text(desk, "patch 1 lamp at 1; nothing;");
        same("a faulty one of which one was done", desk.state(5), 1);
        Checks.text(desk, "1 @ 5; cue 1; blind 1; 1 @ 6;");
        Checks.text(desk, "live; clear; unpatch 1; cue 2;");
        same("three", desk.state(5), 3);
        same("undo", desk.undo(), 1);
        same("blind is back", desk.state(6), 1);
        same("the programmer is back", desk.held(1, 0), 5);
        same("the patch is back", desk.unit(1, 0), 0);
        same("changes are back", desk.change(1, 1, 0), 6);
        same("cues are back", desk.state(3), 1);
        same("undo", desk.undo(), 1);
        same("blind", desk.state(6), -1);
        same("programmer", desk.state(7), 0);
        same("cues", desk.state(3), 0);
        same("patched", desk.state(4), 1);
        same("undo", desk.undo(), 1);
        same("patched", desk.state(4), 0);
        same("undo", desk.undo(), -1);
        for (int i = 1; i <= 9; i++) {
            Checks.text(desk, "event " + i + " = 5 cue 1;");
            same("how many", desk.state(5), Math.min(i, 8));
        }
        for (int i = 9; i >= 2; i--) {
            same("undo", desk.undo(), 1);
            same("gone", desk.event(i, 0), -1);
            same("there", desk.event(i - 1, 0), 5);
        }
        same("followed by eight others", desk.undo(), -1);
        same("stays", desk.event(1, 0), 5);
        for (int i = 2; i <= 9; i++) {
            Checks.text(desk, "event " + i + " = 6 cue 1;");
        }
        desk.undo();
        desk.undo();
        Checks.text(desk, "event 10 = 7 cue 1;");
        same("after undoing", desk.state(5), 7);
        desk.undo();
        same("10 is gone", desk.event(10, 0), -1);
        same("7 stays", desk.event(7, 0), 6);
        same("8 is gone", desk.event(8, 0), -1);
        undoOfAllThings();
        undoLeaves();
    }

    private static void undoOfAllThings() {
        String all = "patch 1 head at 1 limit 900 curve 1 invert swap; patch 2 lamp at 20; group 2 = 2 + 1; palette 3 = dim 5 roll 6;"
            + "sub 4 masters; sub 4 with 2 @ 70; wave 1 = peak tilt size 1 rate 2 spread 3 on 2 + 1; cue 5 up 1 follow 0 link 9;"
            + "blind 5; 1 @ 5 pan from 3; live; park 7 @ 8; event 9 = 10 cue 11;";
        LightDesk desk = Checks.desk(all);
        String before = Checks.saved(desk);
        Checks.text(desk, "unpatch 1; group 2 = 2; palette 3 = none; sub 4 adds; sub 4 none; wave 1 = none; cue 5 up 9 stay loose;"
            + "copy 5 to 6; delete 5; unpark all; event 9 = none;");
        same("all were done", desk.fault(0), 0);
        CHECKS.same("all is otherwise", Checks.saved(desk), "patch 2 lamp at 20;\ngroup 2=2;\ncue 6 up 9;\n");
        desk.undo();
        CHECKS.same("all is back", Checks.saved(desk), before);
    }

    private static void undoLeaves() {
        LightDesk desk = Checks.desk("patch 1 roller at 1; 1 roll 1000 @ 500; record 1 up 10; clear;");
        desk.go();
        desk.advance(5);
        Checks.put(desk, "live");
        same("position", desk.unit(1, 6), 200);
        desk.undo();
        same("CURRENT stays", desk.state(2), 1);
        same("the CLOCK stays", desk.state(0), 5);
        same("the tape stays", desk.state(9), 4);
        same("the GOAL is HOME at once", desk.state(8), 0);
        Checks.text(desk, ";");
        Checks.text(desk, "patch 1 roller at 1;");
        same("patch makes the position 0", desk.unit(1, 6), 0);
        Checks.text(desk, "1 roll 1000;");
        desk.advance(3);
        Checks.text(desk, "unpatch 1;");
        desk.advance(3);
        desk.undo();
        same("the position stays through unpatch and undo", desk.unit(1, 6), 120);
    }

    private static void promise7() {
        LightDesk desk = new LightDesk();
        Checks.put(desk, "live;");
        same("save of nothing", desk.save(), 0);
        same("the tape becomes it", desk.state(9), 0);
        String text = "patch 3 head at 11 swap invert curve 3 limit 5; patch 1 lamp at 2; patch 2 spot at 20 curve 1; patch 40 tint at 197 limit 0;"
            + "group 12 = 40 + 1 + 3; group 1 = 2; palette 12 = pan 3; palette 2 = roll 5 dim 1000 iris 0; palette 1 = none;"
            + "sub 3 with 2 + 1 @ 70; sub 3 masters; sub 2 with 3 @ 0; sub 8 masters;"
            + "wave 4 = step wheel size 10 rate 1000 spread 0 on 3 + 2; wave 1 = saw dim size 0 rate 0 spread 1 on all;"
            + "cue 20; cue 10 link 999 follow 0 delay 4 move 3 down 2 up 600; cue 15 up 7;"
            + "blind 10; 40 blue 7 red from 12 dim 0; 2 pan from 1; live; blind 15; 3 @ full;"
            + "1 @ 5; park 200 @ 255; park 9 @ 0; event 10 = 9999 cue 999; event 2 = 0 cue 1;";
        Checks.text(desk, text);
        String due = "patch 1 lamp at 2;\npatch 2 spot at 20 curve 1;\npatch 3 head at 11 limit 5 curve 3 invert swap;\npatch 40 tint at 197 limit 0;\n"
            + "group 1=2;\ngroup 12=40+1+3;\npalette 2=dim 1000 iris 0 roll 5;\npalette 12=pan 3;\n"
            + "sub 2 with 3@0;\nsub 3 masters;\nsub 3 with 1@70;\nsub 3 with 2@70;\nsub 8 masters;\n"
            + "wave 1=saw dim size 0 rate 0 spread 1 on 1+2+3+40;\nwave 4=step wheel size 10 rate 1000 spread 0 on 3+2;\n"
            + "cue 10 up 600 down 2 move 3 delay 4 follow 0 link 999;\nblind 10;\n2 pan from 1;\n40 dim 0 red from 12 blue 7;\nlive;\n"
            + "cue 15 up 7;\nblind 15;\n1 dim 5;\n3 dim 1000;\nlive;\ncue 20;\n"
            + "park 9@0;\npark 200@255;\nevent 2=0 cue 1;\nevent 10=9999 cue 999;\n";
        same("save", desk.save(), due.length());
        CHECKS.same("the saved show", Checks.tape(desk), due);
        same("save leaves what undo can", desk.state(5), 1);
    }

    private static void savedReadAgain() {
        LightDesk desk = Checks.desk(RIG, "group 1 = 5 thru 1; palette 1 = dim 5; sub 1 with all @ 9; wave 2 = saw dim size 5 rate 5 spread 5 on 3 + 1;",
            "all @ 10 thru 700; record 1 up 5; all palette 1; record 3 follow 7 link 1; park 3 @ 4; event 3 = 5 cue 3;");
        String saved = Checks.saved(desk);
        LightDesk other = Checks.desk(saved);
        CHECKS.same("read again it is the same", Checks.saved(other), saved);
        same("without the programmer", other.state(7), 0);
        StringBuilder text = new StringBuilder();
        for (int i = 1; i <= 40; i++) {
            text.append("patch ").append(i).append(" lamp at ").append(i).append(";");
        }
        LightDesk full = Checks.desk(text.toString());
        int before = full.save();
        same("forty lamps", before, 9 * 19 + 31 * 21);
        for (int i = 1; i <= 8; i++) {
            Checks.text(full, "sub " + i + " with all @ 100;");
        }
        full.end(0);
        Checks.put(full, "live");
        int length = full.save();
        same("more than 6000", length, -1);
        CHECKS.same("the tape stays", Checks.tape(full), "live");
        edgeOfRoom();
    }

    /** A show that is saved in exactly 6000 bytes, and one of 6001. */
    private static void edgeOfRoom() {
        LightDesk desk = new LightDesk();
        StringBuilder text = new StringBuilder();
        for (int i = 1; i <= 40; i++) {
            text.append("patch ").append(i).append(" lamp at ").append(i).append(";");
        }
        Checks.text(desk, text.toString());
        int s = 1;
        int length = desk.save();
        desk.end(0);
        int unit = 1;
        while (length < 5950) {
            Checks.text(desk, "sub " + s + " with " + unit + " @ 100;");
            length = desk.save();
            desk.end(0);
            unit = unit == 40 ? 1 : unit + 1;
            s = unit == 1 ? s + 1 : s;
        }
        // Parks are saved in 10 to 14 bytes each.
        int parks = (6000 - length + 13) / 14;
        for (int i = 0; i < parks; i++) {
            int width = Math.min(14, 6000 - length - 10 * (parks - 1 - i));
            int slot = width == 10 ? 1 + i : width == 11 ? 11 + i : 101 + i;
            Checks.text(desk, "park " + slot + " @ " + (width == 14 ? 100 : width == 13 ? 10 : 1) + ";");
            length += width;
        }
        same("fills all of the room", desk.save(), 6000);
        same("its last byte", desk.tape(5999), 10);
        desk.end(0);
        Checks.text(desk, "event 1 = 1 cue 1;");
        same("more than the room", desk.save(), -1);
        desk.undo();
        same("fits again", desk.save(), 6000);
    }

    private static void promise8() {
        LightDesk desk = new LightDesk();
        same("tape of none", desk.tape(0), -1);
        Checks.put(desk, "ab" + (char) 200);
        same("tape 0", desk.tape(0), 'a');
        same("tape 2", desk.tape(2), 200);
        same("tape 3", desk.tape(3), -1);
        same("tape -1", desk.tape(-1), -1);
        same("tape least", desk.tape(Integer.MIN_VALUE), -1);
        same("tape greatest", desk.tape(Integer.MAX_VALUE), -1);
        same("tape 5999", desk.tape(5999), -1);
        same("tape 6000", desk.tape(6000), -1);
    }
}
