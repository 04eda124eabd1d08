/** "Terms" 3: what each statement does where there is nothing, one, or all of something. */
public final class EdgesOfStatementsTest {
    private static final Edges EDGES = new Edges("EdgesOfStatementsTest");
    private static final String RIG = "patch 1 lamp at 1; patch 2 tint at 2; patch 3 head at 10; patch 4 spot at 20; patch 5 roller at 30;";

    public static void main(String[] args) {
        plusOfSets();
        minusOfSets();
        allAndThru();
        groupsOfSets();
        patching();
        unpatching();
        unpatchingOfWaves();
        parametersThatAUnitHasNot();
        levelsThru();
        moreAndLess();
        moreOfWhat();
        fromPalettes();
        wholePalettes();
        homeAndRelease();
        whereValuesCome();
        whateverItWas();
        subsWith();
        EDGES.finish();
    }

    private static void setIs(LightDesk desk, String set, String due) {
        EDGES.fine(desk, "group 12 = " + set + ";");
        EDGES.same("set " + set, Edges.units(desk, 12), due);
    }

    private static void plusOfSets() {
        EDGES.sentence("+ puts a term's units behind those that are there (one that is there stays where it is)");
        LightDesk desk = Checks.desk(RIG);
        setIs(desk, "3", "3");
        setIs(desk, "3 + 3", "3");
        setIs(desk, "3 + 1", "3 1");
        setIs(desk, "3 + 1 + 3", "3 1");
        setIs(desk, "3 + 1 + 1 + 3 + 2", "3 1 2");
        setIs(desk, "3 + all", "3 1 2 4 5");
        setIs(desk, "3 + 5 thru 1", "3 5 4 2 1");
        setIs(desk, "all + all", "1 2 3 4 5");
    }

    private static void minusOfSets() {
        EDGES.sentence("- takes a term's units away");
        LightDesk desk = Checks.desk(RIG);
        setIs(desk, "1 - 2", "1");
        setIs(desk, "all - 1", "2 3 4 5");
        setIs(desk, "all - 5", "1 2 3 4");
        setIs(desk, "all - 3", "1 2 4 5");
        setIs(desk, "all - 2 thru 5", "1");
        setIs(desk, "all - 3 + 3", "1 2 4 5 3");
        setIs(desk, "3 - 3 + 1", "1");
        setIs(desk, "3 - all + 4", "4");
        setIs(desk, "1 - 20 thru 40", "1");
        setIs(desk, "2 + 1 - 2 + 3 - 1 + 2", "3 2");
    }

    private static void allAndThru() {
        EDGES.sentence("all: all patched ones by their numbers; N thru M: all patched ones from N to M, downwards if M is less");
        LightDesk desk = Checks.desk("patch 40 lamp at 1; patch 1 lamp at 2; patch 20 lamp at 3; patch 21 lamp at 4;");
        setIs(desk, "all", "1 20 21 40");
        setIs(desk, "1 thru 40", "1 20 21 40");
        setIs(desk, "40 thru 1", "40 21 20 1");
        setIs(desk, "20 thru 21", "20 21");
        setIs(desk, "21 thru 20", "21 20");
        setIs(desk, "20 thru 20", "20");
        setIs(desk, "2 thru 39", "20 21");
        setIs(desk, "39 thru 2", "21 20");
        setIs(desk, "19 thru 20", "20");
        setIs(desk, "22 thru 21", "21");
        setIs(desk, "40 thru 40", "40");
        setIs(desk, "1 thru 1", "1");
        setIs(desk, "40 thru 22", "40");
        LightDesk full = Checks.desk(Edges.lamps());
        setIs(full, "all - 2 thru 39", "1 40");
        EDGES.fine(full, "group 1 = 40 thru 1;");
        EDGES.same("the first of forty", full.group(1, 0), 40);
        EDGES.same("the last of forty", full.group(1, 39), 1);
        EDGES.same("behind the last", full.group(1, 40), -1);
        EDGES.fine(full, "all @ 7; 40 thru 1 + all @ 7;");
        EDGES.same("values of forty", full.state(7), 40);
    }

    private static void groupsOfSets() {
        EDGES.sentence("group N: its row");
        LightDesk desk = Checks.desk(RIG, "group 1 = 4 + 2; group 2 = 3;");
        setIs(desk, "group 1", "4 2");
        setIs(desk, "group 1 + group 2", "4 2 3");
        setIs(desk, "2 + group 1", "2 4");
        setIs(desk, "all - group 1", "1 3 5");
        setIs(desk, "group 1 + group 1", "4 2");
        EDGES.sentence("a set is of the units as they are then");
        EDGES.fine(desk, "group 3 = group 1; group 1 = group 1 - 4; group 1 = group 1 + 5;");
        EDGES.same("the group that went by it", Edges.units(desk, 3), "4 2");
        EDGES.same("the group of itself", Edges.units(desk, 1), "2 5");
    }

    private static void patching() {
        EDGES.sentence("patch: the unit is patched (LIMIT 1000, CURVE 0, if not told); its POSITION is 0");
        LightDesk desk = new LightDesk();
        for (int i = 0; i < Edges.KINDS.length; i++) {
            EDGES.fine(desk, "patch " + (i + 1) + " " + Edges.KINDS[i] + " at " + (1 + i * 10) + ";");
            int[] due = {i, 1 + i * 10, 1000, 0, 0, 0, 0};
            for (int what = 0; what < due.length; what++) {
                EDGES.same(Edges.KINDS[i] + " " + what, desk.unit(i + 1, what), due[what]);
            }
        }
        EDGES.fine(desk, "9 roll full;");
        desk.advance(25);
        EDGES.same("POSITION", desk.unit(9, 6), 1000);
        EDGES.fine(desk, "unpatch 9;");
        EDGES.fine(desk, "patch 9 roller at 81;");
        EDGES.same("POSITION", desk.unit(9, 6), 0);
        EDGES.sentence("what is told of one patch is not of the next");
        EDGES.fine(desk, "unpatch 1; patch 1 lamp at 1 limit 5 curve 3 swap invert; unpatch 1; patch 1 lamp at 1;");
        int[] due = {0, 1, 1000, 0, 0, 0, 0};
        for (int what = 0; what < due.length; what++) {
            EDGES.same("lamp " + what, desk.unit(1, what), due[what]);
        }
    }

    private static void unpatching() {
        EDGES.sentence("unpatch: all that the show has of them is gone (from groups, subs, waves, cues, the programmer)");
        LightDesk desk = Checks.desk(RIG, "group 1 = 3 + 2; group 12 = 2; sub 1 with 2 + 3 @ 5; sub 8 with 2 @ 5; sub 8 masters; palette 1 = red 5;",
            "all home; record 1; record 999; clear; 2 red from 1; 3 @ 5; cue 500; blind 1; park 2 @ 9; event 1 = 5 cue 1;");
        EDGES.fine(desk, "unpatch 2;");
        EDGES.same("groups", Edges.units(desk, 1) + "|" + Edges.units(desk, 12), "3|");
        EDGES.same("subs", desk.sub(1, 2), -1);
        EDGES.same("subs", desk.sub(1, 3), 5);
        EDGES.same("subs", desk.sub(8, 2), -1);
        EDGES.same("a sub without units MASTERS as it did", desk.masters(8), 1);
        for (int parameter = 0; parameter <= 8; parameter++) {
            EDGES.same("cues", desk.change(1, 2, parameter), -1);
            EDGES.same("cues", desk.change(999, 2, parameter), -1);
            EDGES.same("the programmer", desk.held(2, parameter), -1);
        }
        EDGES.same("others' in cues", desk.change(999, 3, 4), 500);
        EDGES.same("others' in the programmer", desk.state(7), 1);
        EDGES.sentence("unpatch leaves what is not of the units: palettes, cues, BLIND, PARKS, EVENTS");
        EDGES.same("palette", desk.palette(1, 1), 5);
        EDGES.same("cues", desk.state(3), 3);
        EDGES.same("BLIND", desk.state(6), 1);
        EDGES.same("PARKS", desk.slot(2), 9);
        EDGES.same("EVENTS", desk.event(1, 1), 1);
        EDGES.sentence("unpatch all: nothing is patched");
        EDGES.fine(desk, "unpatch all;");
        EDGES.same("patched", desk.state(4), 0);
        EDGES.same("changes", desk.cue(0, 6) + desk.cue(1, 6) + desk.cue(2, 6), 0);
        EDGES.same("groups", Edges.units(desk, 1), "");
        EDGES.fine(desk, RIG);
        EDGES.same("nothing comes back with the patch", desk.cue(0, 6) + desk.state(7), 0);
    }

    private static void unpatchingOfWaves() {
        EDGES.sentence("unpatch: a wave without units left is none");
        LightDesk desk = Checks.desk(RIG, "wave 1 = saw dim size 1 rate 2 spread 3 on 2 + 3; wave 4 = step red size 4 rate 5 spread 6 on 2;");
        EDGES.fine(desk, "unpatch 2;");
        EDGES.same("one with a unit left", desk.wave(1, 5), 3);
        EDGES.same("one with a unit left", desk.wave(1, 2), 1);
        EDGES.same("one with a unit left", desk.wave(1, 6), -1);
        for (int what = 0; what <= 5; what++) {
            EDGES.same("one without " + what, desk.wave(4, what), -1);
        }
        EDGES.fine(desk, "patch 2 tint at 2;");
        EDGES.same("it stays none", desk.wave(4, 0), -1);
        EDGES.fine(desk, "unpatch all;");
        EDGES.same("none", desk.wave(1, 0), -1);
    }

    private static void parametersThatAUnitHasNot() {
        EDGES.sentence("a parameter that a unit has not is passed over");
        String[] whats = {" 5", " full", " from 1", " 5 thru 7", " + 5", " - 5"};
        for (int i = 0; i < Edges.KINDS.length; i++) {
            LightDesk desk = Checks.desk("patch 7 " + Edges.KINDS[i] + " at 1; palette 1 = dim 7; "
                + "palette 2 = dim 1 red 1 green 1 blue 1 pan 1 tilt 1 wheel 1 iris 1 roll 1;");
            int count = Edges.HAS[i].split(" ").length;
            for (int parameter = 0; parameter < 9; parameter++) {
                boolean has = (" " + Edges.HAS[i] + " ").contains(" " + Edges.PARAMETERS[parameter] + " ");
                for (String what : whats) {
                    EDGES.fine(desk, "7 " + Edges.PARAMETERS[parameter] + what + ";");
                    EDGES.same(Edges.KINDS[i] + " " + Edges.PARAMETERS[parameter] + what, desk.state(7), has ? 1 : 0);
                    EDGES.same(Edges.KINDS[i] + " " + Edges.PARAMETERS[parameter] + what, desk.held(7, parameter) != -1 ? 1 : 0, has ? 1 : 0);
                    EDGES.fine(desk, "clear;");
                }
            }
            EDGES.fine(desk, "7 home;");
            EDGES.same(Edges.KINDS[i] + " home", desk.state(7), count);
            EDGES.fine(desk, "clear; 7 palette 2;");
            EDGES.same(Edges.KINDS[i] + " palette", desk.state(7), count);
            EDGES.fine(desk, "7 release;");
            EDGES.same(Edges.KINDS[i] + " release", desk.state(7), 0);
        }
        EDGES.sentence("@ is dim");
        LightDesk desk = Checks.desk(RIG, "3 @ 5;");
        EDGES.same("@", desk.held(3, 0), 5);
        EDGES.fine(desk, "3 dim 6;");
        EDGES.same("dim", desk.held(3, 0), 6);
    }

    private static void levelsThru() {
        EDGES.sentence("A thru B: of n units the k-th, from 0 on, gets MIX(A, B, k, n - 1), a single one A");
        LightDesk desk = Checks.desk(Edges.lamps());
        EDGES.fine(desk, "7 @ 300 thru 900;");
        EDGES.same("a single one", desk.held(7, 0), 300);
        EDGES.fine(desk, "7 + 3 @ 300 thru 900;");
        EDGES.same("two: the first", desk.held(7, 0), 300);
        EDGES.same("two: the last", desk.held(3, 0), 900);
        EDGES.fine(desk, "7 + 3 + 5 @ 1 thru 4;");
        EDGES.same("three: the middle, CUT", desk.held(3, 0), 2);
        EDGES.fine(desk, "7 + 3 + 5 @ 4 thru 1;");
        EDGES.same("three, downwards: the middle, CUT towards 0", desk.held(3, 0), 3);
        EDGES.same("three, downwards: the last", desk.held(5, 0), 1);
        EDGES.fine(desk, "all @ 0 thru 1000;");
        for (int unit = 1; unit <= 40; unit++) {
            EDGES.same("forty " + unit, desk.held(unit, 0), (unit - 1) * 1000 / 39);
        }
        EDGES.fine(desk, "all @ 1000 thru 0;");
        for (int unit = 1; unit <= 40; unit++) {
            EDGES.same("forty, downwards " + unit, desk.held(unit, 0), 1000 - (unit - 1) * 1000 / 39);
        }
        EDGES.fine(desk, "all @ 5 thru 5;");
        EDGES.same("from one to the same", desk.held(20, 0), 5);
        EDGES.sentence("A thru B: the set's units are counted, those too that have the parameter not");
        LightDesk mixed = Checks.desk(RIG, "all red 0 thru 400 pan 0 thru 400;");
        EDGES.same("unit 2, in place 1 of 5", mixed.held(2, 1), 100);
        EDGES.same("unit 3, in place 2 of 5", mixed.held(3, 4), 200);
        EDGES.same("unit 4, in place 3 of 5", mixed.held(4, 4), 300);
    }

    private static void moreAndLess() {
        EDGES.sentence("+ N, - N: so much more, less, but 0 .. 1000");
        int[][] rows = {{0, 0, 0, 0}, {0, 1, 1, 0}, {0, 1000, 1000, 0}, {1, 1, 2, 0}, {1, 999, 1000, 0}, {1, 1000, 1000, 0}, {500, 500, 1000, 0},
            {500, 501, 1000, 0}, {501, 501, 1000, 0}, {500, 499, 999, 1}, {999, 1, 1000, 998}, {999, 2, 1000, 997}, {1000, 0, 1000, 1000},
            {1000, 1, 1000, 999}, {1000, 1000, 1000, 0}, {1000, 999, 1000, 1}, {2, 1, 3, 1}};
        for (int[] row : rows) {
            LightDesk desk = Checks.desk("patch 1 lamp at 1; patch 2 lamp at 2; all @ " + row[0] + "; 1 @ + " + row[1] + "; 2 @ - " + row[1] + ";");
            EDGES.same(row[0] + " + " + row[1], desk.held(1, 0), row[2]);
            EDGES.same(row[0] + " - " + row[1], desk.held(2, 0), row[3]);
        }
        EDGES.sentence("+ 0 gives the value, where there was none");
        LightDesk desk = Checks.desk(RIG, "3 pan + 0;");
        EDGES.same("a value", desk.held(3, 4), 500);
        EDGES.same("one value", desk.state(7), 1);
    }

    private static void moreOfWhat() {
        EDGES.sentence("+ N: of the programmer's value, else its CUE LEVEL");
        LightDesk desk = Checks.desk(RIG, "1 @ 1000; 2 red 400; record 1 up 10; clear; sub 1 with 1 @ 900;");
        desk.go();
        desk.advance(3);
        desk.fader(1, 1000);
        EDGES.fine(desk, "1 @ + 50; 2 red + 50 green - 1;");
        EDGES.same("of what fades, subs count not", desk.held(1, 0), 350);
        EDGES.same("of a dark unit's, that is there at once", desk.held(2, 1), 450);
        EDGES.same("of HOME", desk.held(2, 2), 999);
        EDGES.fine(desk, "1 @ + 50;");
        EDGES.same("of the programmer's", desk.held(1, 0), 400);
        EDGES.sentence("+ N: of the LEVEL of a value FROM a palette, HOME if it has none");
        EDGES.fine(desk, "palette 1 = dim 70; 1 @ from 1; 1 @ + 5; 2 blue from 1; 2 blue - 5;");
        EDGES.same("of the palette's", desk.held(1, 0), 75);
        EDGES.same("of HOME", desk.held(2, 3), 995);
        EDGES.sentence("+ N: of BLIND's TRACKED");
        EDGES.fine(desk, "cue 5; blind 5; 1 @ - 100; 2 red + 1; 3 pan + 1; 3 pan + 1;");
        EDGES.same("of what tracks", desk.change(5, 1, 0), 900);
        EDGES.same("of what tracks", desk.change(5, 2, 1), 401);
        EDGES.same("of HOME, then of its own", desk.change(5, 3, 4), 502);
        EDGES.same("the programmer stays", desk.held(1, 0), 75);
        EDGES.fine(desk, "cue 3; blind 3; 1 @ + 0;");
        EDGES.same("a cue behind it counts not", desk.change(3, 1, 0), 1000);
        EDGES.sentence("+ N: each unit of a set from its own");
        EDGES.fine(desk, "live; clear; 1 @ 10; 2 @ 20; 1 + 2 @ + 5;");
        EDGES.same("1", desk.held(1, 0), 15);
        EDGES.same("2", desk.held(2, 0), 25);
    }

    private static void fromPalettes() {
        EDGES.sentence("FROM a palette: its LEVEL is then what that palette has for that parameter, HOME if it has none");
        LightDesk desk = Checks.desk("patch 1 spot at 1; patch 2 tint at 20; patch 3 roller at 30;",
            "all dim from 3 red from 3 green from 3 blue from 3 pan from 3 tilt from 3 wheel from 3 iris from 3 roll from 3;");
        int[] having = {1, 2, 2, 2, 1, 1, 1, 1, 3};
        for (int parameter = 0; parameter < 9; parameter++) {
            EDGES.same("held " + parameter, desk.held(having[parameter], parameter), 2003);
            EDGES.same("without levels " + parameter, desk.level(having[parameter], parameter), Edges.HOME[parameter]);
        }
        for (int parameter = 0; parameter < 9; parameter++) {
            for (int level : new int[] {0, 1, 999, 1000}) {
                EDGES.fine(desk, "palette 3 = " + Edges.PARAMETERS[parameter] + " " + level + ";");
                EDGES.same("with " + level, desk.level(having[parameter], parameter), level);
            }
            int other = (parameter + 1) % 9;
            EDGES.same("of another parameter", desk.level(having[other], other), Edges.HOME[other]);
        }
        EDGES.sentence("A palette that changes is changed for all that goes by it");
        EDGES.fine(desk, "clear; palette 3 = dim 100; 1 @ from 3; record 1; clear;");
        desk.go();
        EDGES.same("seen", desk.shown(1), 100);
        EDGES.fine(desk, "palette 3 = dim 101;");
        EDGES.same("the GOAL", desk.tracked(1, 1, 0), 101);
        EDGES.same("seen at once", desk.shown(1), 101);
        EDGES.fine(desk, "palette 3 = none;");
        EDGES.same("HOME", desk.shown(1), 0);
        EDGES.same("the change stays", desk.change(1, 1, 0), 2003);
    }

    private static void wholePalettes() {
        EDGES.sentence("palette P: for each parameter that the palette has: FROM it");
        LightDesk desk = Checks.desk(RIG, "palette 1 = dim 0 iris 1000; palette 2 = roll 5; 4 @ 5 pan 6;");
        EDGES.fine(desk, "4 palette 1;");
        int[] due = {2001, -1, -1, -1, 6, -1, -1, 2001, -1};
        for (int parameter = 0; parameter < 9; parameter++) {
            EDGES.same("of the spot " + parameter, desk.held(4, parameter), due[parameter]);
        }
        EDGES.fine(desk, "clear; 4 @ 5 palette 12;");
        EDGES.same("one without levels leaves what there is", desk.held(4, 0), 5);
        EDGES.same("one without levels gives nothing", desk.state(7), 1);
        EDGES.fine(desk, "clear; all palette 2;");
        EDGES.same("the one that has roll", desk.held(5, 8), 2002);
        EDGES.same("the one that has roll", desk.state(7), 1);
        EDGES.fine(desk, "palette 2 = none; palette 1 = roll 7 dim 3;");
        EDGES.same("a value FROM it stays so", desk.held(5, 8), 2002);
    }

    private static void homeAndRelease() {
        EDGES.sentence("home: for each parameter the level HOME");
        LightDesk desk = Checks.desk("patch 1 spot at 1; patch 2 glow at 20; patch 3 roller at 30; all home;");
        int[][] due = {{0, -1, -1, -1, 500, 500, 0, 1000, -1}, {0, 1000, 1000, 1000, -1, -1, -1, -1, -1}, {0, -1, -1, -1, -1, -1, -1, -1, 0}};
        for (int unit = 1; unit <= 3; unit++) {
            for (int parameter = 0; parameter < 9; parameter++) {
                EDGES.same("home " + unit + " " + parameter, desk.held(unit, parameter), due[unit - 1][parameter]);
            }
        }
        EDGES.sentence("release: for each parameter none");
        EDGES.fine(desk, "2 release;");
        EDGES.same("values", desk.state(7), 7);
        EDGES.fine(desk, "all release;");
        EDGES.same("values", desk.state(7), 0);
        EDGES.fine(desk, "all release;");
        EDGES.same("of nothing", desk.state(7), 0);
        EDGES.sentence("the whats from the left");
        EDGES.fine(desk, "1 home release @ 7; 2 @ 7 release; 3 @ 7 @ 8 home @ 9;");
        EDGES.same("release, then a level", desk.held(1, 0), 7);
        EDGES.same("a level, then release", desk.held(2, 0), -1);
        EDGES.same("the last one", desk.held(3, 0), 9);
        EDGES.same("values", desk.state(7), 3);
    }

    private static void whereValuesCome() {
        EDGES.sentence("These VALUES come into the programmer; with BLIND, into the changes of that cue");
        LightDesk desk = Checks.desk(RIG, "palette 1 = red 5; cue 1; cue 2; blind 1; all @ 7 thru 11; 2 palette 1; 3 home; 4 iris from 1;");
        EDGES.same("the programmer", desk.state(7), 0);
        EDGES.same("the cue", desk.cue(0, 6), 5 + 1 + 3 + 1);
        EDGES.same("the other cue", desk.cue(1, 6), 0);
        EDGES.same("a level", desk.change(1, 5, 0), 11);
        EDGES.same("home", desk.change(1, 3, 0), 0);
        EDGES.same("a palette", desk.change(1, 2, 1), 2001);
        EDGES.fine(desk, "all release;");
        EDGES.same("release", desk.cue(0, 6), 0);
        EDGES.fine(desk, "live; 1 @ 5;");
        EDGES.same("live", desk.state(7), 1);
        EDGES.same("live", desk.cue(0, 6), 0);
        EDGES.sentence("release without BLIND leaves the cues");
        EDGES.fine(desk, "blind 1; 1 @ 5; live; 1 release;");
        EDGES.same("the cue", desk.change(1, 1, 0), 5);
        EDGES.same("the programmer", desk.state(7), 0);
    }

    private static void whateverItWas() {
        EDGES.sentence("group, palette, sub none, wave: it is what is told, whatever it was");
        LightDesk desk = Checks.desk(RIG,
            "group 1 = all; group 1 = 3; palette 1 = dim 5 red 6; palette 1 = red 0; sub 1 with all @ 5; sub 2 with 1 @ 5; sub 1 masters; "
            + "sub 1 none;",
            "wave 1 = saw dim size 1 rate 2 spread 3 on all; wave 1 = peak roll size 0 rate 0 spread 0 on 5; "
            + "wave 2 = saw dim size 1 rate 2 spread 3 on 1; wave 2 = none;");
        EDGES.same("group", Edges.units(desk, 1), "3");
        EDGES.same("palette", desk.palette(1, 0), -1);
        EDGES.same("a level of 0 is one", desk.palette(1, 1), 0);
        for (int unit = 1; unit <= 5; unit++) {
            EDGES.same("sub", desk.sub(1, unit), -1);
        }
        EDGES.same("another sub", desk.sub(2, 1), 5);
        EDGES.same("it MASTERS as it did", desk.masters(1), 1);
        int[] due = {1, 8, 0, 0, 0, 5, -1};
        for (int what = 0; what < due.length; what++) {
            EDGES.same("wave " + what, desk.wave(1, what), due[what]);
            EDGES.same("wave none " + what, desk.wave(2, what), -1);
        }
        EDGES.fine(desk, "palette 1 = none; palette 1 = none; wave 1 = none; wave 1 = none; sub 1 none;");
        EDGES.same("palette none", desk.palette(1, 1), -1);
        EDGES.same("wave none", desk.wave(1, 5), -1);
    }

    private static void subsWith() {
        EDGES.sentence("sub with: its units have that level, others stay");
        LightDesk desk = Checks.desk(RIG, "sub 1 with 1 + 2 @ 5; sub 1 with 2 + 3 @ 0;");
        int[] due = {5, 0, 0, -1, -1};
        for (int unit = 1; unit <= 5; unit++) {
            EDGES.same("sub 1 " + unit, desk.sub(1, unit), due[unit - 1]);
            EDGES.same("sub 2 " + unit, desk.sub(2, unit), -1);
        }
        EDGES.sentence("each ADDS, at first, or MASTERS; sub adds, masters: it does so from now on");
        for (int s = 1; s <= 8; s++) {
            EDGES.same("at first", desk.masters(s), 0);
            EDGES.fine(desk, "sub " + s + " masters; sub " + s + " masters;");
            EDGES.same("masters", desk.masters(s), 1);
            EDGES.same("the next one", s < 8 ? desk.masters(s + 1) : 0, 0);
        }
        EDGES.fine(desk, "sub 8 adds; sub 8 adds;");
        EDGES.same("adds", desk.masters(8), 0);
        EDGES.same("its levels stay", desk.sub(1, 1), 5);
    }
}
