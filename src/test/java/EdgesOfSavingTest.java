/** "Terms" 6: what the saved text has, what is left out of it, and that it fits the tape or not. */
public final class EdgesOfSavingTest {
    private static final Edges EDGES = new Edges("EdgesOfSavingTest");
    private static final String RIG = "patch 1 lamp at 1; patch 2 tint at 2; patch 40 spot at 20;";
    private static final String SAVED_RIG = "patch 1 lamp at 1;\npatch 2 tint at 2;\npatch 40 spot at 20;\n";

    public static void main(String[] args) {
        nothing();
        patches();
        groups();
        palettes();
        subs();
        waves();
        timesOfCues();
        changesOfCues();
        parks();
        events();
        leftOut();
        inOrder();
        wholeTape();
        tooLong();
        readAgain();
        EDGES.finish();
    }

    /** A desk of the rig and that text is saved as the rig and this. */
    private static void saved(String text, String due) {
        LightDesk desk = Checks.desk(RIG, text);
        EDGES.same("bytes of " + text, desk.save(), SAVED_RIG.length() + due.length());
        EDGES.same("saved of " + text, Checks.tape(desk), SAVED_RIG + due);
    }

    private static void nothing() {
        EDGES.sentence("The tape becomes the saved show: of a show that has nothing");
        LightDesk desk = new LightDesk();
        EDGES.same("save", desk.save(), 0);
        Checks.put(desk, "live");
        EDGES.same("save", desk.save(), 0);
        EDGES.same("the tape", desk.state(9), 0);
        EDGES.same("its first byte", desk.tape(0), -1);
    }

    private static void patches() {
        EDGES.sentence("patch with limit, curve, invert, swap, in this order, where they are not 1000, 0, not, not");
        String[] told = {"", " limit 1000", " curve 0", " limit 999", " limit 0", " curve 1", " curve 3", " invert", " swap", " swap invert",
            " swap curve 2 invert limit 1", " invert limit 1000 curve 0", " curve 3 limit 10", " swap limit 100"};
        String[] due = {"", "", "", " limit 999", " limit 0", " curve 1", " curve 3", " invert", " swap", " invert swap",
            " limit 1 curve 2 invert swap", " invert", " limit 10 curve 3", " limit 100 swap"};
        for (int i = 0; i < told.length; i++) {
            LightDesk desk = Checks.desk("patch 7 roller at 199" + told[i] + ";");
            EDGES.same("patch" + told[i], Checks.saved(desk), "patch 7 roller at 199" + due[i] + ";\n");
        }
        EDGES.sentence("for each patched unit, by numbers");
        LightDesk desk = Checks.desk("patch 40 lamp at 1; patch 10 fine at 101; patch 2 warm at 100; patch 1 relay at 98; patch 9 glow at 9; "
            + "unpatch 2;");
        EDGES.same("saved", Checks.saved(desk), "patch 1 relay at 98;\npatch 9 glow at 9;\npatch 10 fine at 101;\npatch 40 lamp at 1;\n");
        String[] kinds = {"lamp", "fine", "warm", "relay", "tint", "glow", "head", "spot", "roller"};
        for (String kind : kinds) {
            EDGES.same(kind, Checks.saved(Checks.desk("patch 1 " + kind + " at 100;")), "patch 1 " + kind + " at 100;\n");
        }
    }

    private static void groups() {
        EDGES.sentence("for each group with units group N = units with + between");
        saved("group 1 = 2;", "group 1=2;\n");
        saved("group 12 = 40 thru 1; group 2 = 1 + 40;", "group 2=1+40;\ngroup 12=40+2+1;\n");
        EDGES.sentence("a group without units is left out");
        LightDesk desk = Checks.desk(RIG, "patch 9 lamp at 100; group 1 = 9; group 2 = 9 + 1; unpatch 9;");
        EDGES.same("saved", Checks.saved(desk), SAVED_RIG + "group 2=1;\n");
        EDGES.sentence("a group of forty");
        LightDesk full = Checks.desk(Edges.lamps(), "group 1 = all;");
        String text = Checks.saved(full);
        EDGES.same("its end", text.substring(text.length() - 10), "+38+39+40;\n".substring(1));
    }

    private static void palettes() {
        EDGES.sentence("for each palette with levels palette N = parameters with levels");
        saved("palette 1 = dim 0;", "palette 1=dim 0;\n");
        saved("palette 12 = roll 1 iris 2 wheel 3 tilt 4 pan 5 blue 6 green 7 red 8 dim 9; palette 5 = iris 1000;",
            "palette 5=iris 1000;\npalette 12=dim 9 red 8 green 7 blue 6 pan 5 tilt 4 wheel 3 iris 2 roll 1;\n");
        EDGES.sentence("a palette without levels is left out");
        saved("palette 1 = dim 5; palette 1 = none; palette 2 = none;", "");
    }

    private static void subs() {
        EDGES.sentence("for each sub: sub N masters, if it does, and for each unit that it has sub N with UNIT@LEVEL");
        saved("sub 1 masters;", "sub 1 masters;\n");
        saved("sub 1 adds; sub 2 none;", "");
        saved("sub 8 with 40 + 1 @ 0;", "sub 8 with 1@0;\nsub 8 with 40@0;\n");
        saved("sub 8 with 2 @ 1000; sub 8 masters; sub 1 with 2 @ 5;", "sub 1 with 2@5;\nsub 8 masters;\nsub 8 with 2@1000;\n");
        saved("sub 3 masters; sub 3 with all @ 5; sub 3 none;", "sub 3 masters;\n");
    }

    private static void waves() {
        EDGES.sentence("for each wave: wave N = as told, its units with + between");
        saved("wave 1 = saw dim size 0 rate 0 spread 0 on 2;", "wave 1=saw dim size 0 rate 0 spread 0 on 2;\n");
        saved("wave 4 = step roll size 1000 rate 10 spread 100 on 40 thru 1; wave 2 = peak iris size 1 rate 2 spread 3 on all - 2;",
            "wave 2=peak iris size 1 rate 2 spread 3 on 1+40;\nwave 4=step roll size 1000 rate 10 spread 100 on 40+2+1;\n");
        EDGES.sentence("a wave that is none is left out");
        saved("wave 1 = saw dim size 0 rate 0 spread 0 on 2; wave 1 = none; wave 2 = none;", "");
        LightDesk desk = Checks.desk(RIG, "patch 9 lamp at 100; wave 1 = saw dim size 0 rate 0 spread 0 on 9; unpatch 9;");
        EDGES.same("without units", Checks.saved(desk), SAVED_RIG);
    }

    private static void timesOfCues() {
        EDGES.sentence("cue N, with up, down, move, delay, follow, link, in this order, where they are not 0 (follow, link: where there is one)");
        String[] words = {"up", "down", "move", "delay", "follow"};
        for (String word : words) {
            saved("cue 5 " + word + " 600;", "cue 5 " + word + " 600;\n");
            saved("cue 5 " + word + " 1;", "cue 5 " + word + " 1;\n");
            saved("cue 5 " + word + " 0;", word.equals("follow") ? "cue 5 follow 0;\n" : "cue 5;\n");
        }
        saved("cue 5 link 999;", "cue 5 link 999;\n");
        saved("cue 5 link 1 follow 2 delay 3 move 4 down 5 up 6;", "cue 5 up 6 down 5 move 4 delay 3 follow 2 link 1;\n");
        saved("cue 5 link 1 follow 2; cue 5 stay loose;", "cue 5;\n");
        saved("cue 999; cue 1; cue 10; cue 9;", "cue 1;\ncue 9;\ncue 10;\ncue 999;\n");
    }

    private static void changesOfCues() {
        EDGES.sentence("then, if it has changes: blind N; for each unit with changes: UNIT, then of each parameter with one its name (dim, too) "
            + "and its level, or from and the palette; and behind these live (so for each such cue)");
        saved("1 @ 0; record 5; clear;", "cue 5;\nblind 5;\n1 dim 0;\nlive;\n");
        saved("40 iris 1000 wheel from 12 tilt 1 pan 2 @ 3; 2 blue 1 green 22 red 333; record 5 up 7; clear; cue 6; 1 @ from 1; record 7; clear;",
            "cue 5 up 7;\nblind 5;\n2 red 333 green 22 blue 1;\n40 dim 3 pan 2 tilt 1 wheel from 12 iris 1000;\nlive;\n"
                + "cue 6;\ncue 7;\nblind 7;\n1 dim from 1;\nlive;\n");
        saved("1 @ 5; record 5; clear; blind 5; 1 release;", "cue 5;\n");
    }

    private static void parks() {
        EDGES.sentence("for each slot that has one: park SLOT@BYTE");
        saved("park 200 @ 0; park 1 @ 255; park 99 @ 9; unpark 99;", "park 1@255;\npark 200@0;\n");
        saved("park 200 @ 0; unpark all;", "");
    }

    private static void events() {
        EDGES.sentence("for each event that is not none: event N=TIME cue NUMBER");
        saved("event 10 = 9999 cue 1; event 1 = 0 cue 999; event 5 = 100 cue 10; event 6 = 5 cue 5; event 6 = none;",
            "event 1=0 cue 999;\nevent 5=100 cue 10;\nevent 10=9999 cue 1;\n");
    }

    private static void leftOut() {
        EDGES.sentence("The show as a text, without the programmer and BLIND");
        saved("1 @ 5; all home;", "");
        saved("cue 5; blind 5;", "cue 5;\n");
        EDGES.sentence("without what is not the show");
        LightDesk desk = Checks.desk(RIG, "cue 1; wave 1 = saw dim size 1 rate 1 spread 1 on 1;");
        String before = Checks.saved(desk);
        desk.go();
        desk.advance(7);
        desk.fader(1, 5);
        desk.bump(1, true);
        desk.grand(5);
        desk.black(true);
        desk.run(1, true);
        desk.hold(true);
        EDGES.same("saved", Checks.saved(desk), before);
    }

    private static void inOrder() {
        EDGES.sentence("patched units, groups, palettes, subs, waves, cues, parks, events, each without blanks but one between two words or numbers");
        saved("event 1 = 1 cue 1; park 1 @ 1; cue 1; wave 1 = saw dim size 1 rate 1 spread 1 on 1; sub 1 with 1 @ 1; palette 1 = dim 1; group 1 = 1;",
            "group 1=1;\npalette 1=dim 1;\nsub 1 with 1@1;\nwave 1=saw dim size 1 rate 1 spread 1 on 1;\ncue 1;\npark 1@1;\nevent 1=1 cue 1;\n");
    }

    /** A desk whose show is saved in exactly that many bytes: subs of forty lamps, then parks of 12 to 14 bytes each. */
    private static LightDesk deskOf(int bytes) {
        LightDesk desk = Checks.desk(Edges.lamps());
        int length = desk.save();
        desk.end(0);
        for (int i = 0; length < bytes - 120; i++) {
            Checks.text(desk, "sub " + (1 + i / 40) + " with " + (1 + i % 40) + " @ 100;");
            length = desk.save();
            desk.end(0);
        }
        int rest = bytes - length;
        int[] parked = {1, 10, 100};
        for (int parks = (rest + 13) / 14; parks > 0; parks--) {
            int width = Math.min(14, rest - 12 * (parks - 1));
            Checks.text(desk, "park " + (200 - parks) + " @ " + parked[width - 12] + ";");
            rest -= width;
        }
        return desk;
    }

    private static void wholeTape() {
        EDGES.sentence("NONE if these are more than 6000 (the tape stays)");
        LightDesk desk = deskOf(6000);
        Checks.put(desk, "live;");
        EDGES.same("save of 6000", desk.save(), 6000);
        EDGES.same("the tape", desk.state(9), 6000);
        EDGES.same("its last byte", desk.tape(5999), 10);
        EDGES.same("the one ahead of it", desk.tape(5998), ';');
        EDGES.same("feed behind it", desk.feed(0, 0, 0, 0, 0), -1);
        String text = Checks.tape(desk);
        LightDesk other = Checks.desk(text);
        EDGES.same("read again it is 6000", other.save(), 6000);
        EDGES.same("read again it is the same", Checks.tape(other), text);
        EDGES.same("5999", deskOf(5999).save(), 5999);
    }

    private static void tooLong() {
        EDGES.sentence("NONE if these are more than 6000 (the tape stays)");
        LightDesk desk = deskOf(6001);
        Checks.put(desk, "live;");
        EDGES.refused(desk, "save of 6001", desk::save, -1);
        EDGES.same("the tape is a text yet", desk.enter(), 1);
        EDGES.refused(desk, "save of 6001, without a tape", desk::save, -1);
        LightDesk most = Checks.desk(Edges.lamps());
        for (int s = 1; s <= 8; s++) {
            EDGES.fine(most, "sub " + s + " with all @ 1000;");
        }
        EDGES.refused(most, "save of twice as much", most::save, -1);
        EDGES.fine(most, "unpatch all;");
        EDGES.same("save of nothing again", most.save(), 0);
    }

    private static void readAgain() {
        EDGES.sentence("all can be saved as a text and read again");
        LightDesk desk = Checks.desk("patch 1 lamp at 1 limit 0; patch 2 glow at 2 curve 3; patch 3 head at 10 invert; patch 40 spot at 193 swap;"
            + "group 1 = all; group 12 = 40 thru 1; palette 1 = dim 0; palette 12 = roll 1000 red 1; sub 1 with 1 @ 0; sub 8 masters; "
            + "sub 8 with 40 @ 1000;",
            "wave 4 = step roll size 1000 rate 1000 spread 1000 on 40 + 1; wave 1 = saw dim size 0 rate 0 spread 0 on 2;",
            "all home; 2 red from 12 @ from 1; record 1 up 600 down 1 move 2 delay 3 follow 0 link 999; clear; cue 2; 1 @ full; record 999; "
            + "clear; park 200 @ 255; park 1 @ 0; event 10 = 9999 cue 999; event 1 = 0 cue 1;");
        String before = Picture.of(desk).replaceAll("state 5 0: \\d+", "");
        String text = Checks.saved(desk);
        LightDesk other = new LightDesk();
        Checks.put(other, text);
        int due = (int) text.chars().filter(sign -> sign == ';').count();
        EDGES.same("statements", other.enter(), due);
        EDGES.same("the show", Picture.difference(before, Picture.of(other).replaceAll("state 5 0: \\d+", "")), "");
    }
}
