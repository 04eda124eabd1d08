import java.util.LinkedHashMap;
import java.util.Map;
import java.util.TreeSet;

/**
 * Each statement, and each call, done on a desk that has something of everything, changes what the document says of it and nothing
 * else: neither then, nor as the clock goes on. Then undo() brings the show back, and leaves what is not the show.
 */
public final class OthersTest {
    private static final Checks CHECKS = new Checks("OthersTest");
    private static final String RIG = "patch 1 lamp at 1 limit 900; patch 2 tint at 2 curve 1; patch 3 head at 10 swap; patch 4 roller at 30; "
        + "patch 5 warm at 35; patch 6 lamp at 36; patch 40 spot at 20 invert;";
    private static final String ROWS = "group 1 = 2 + 1; group 2 = 40; palette 1 = dim 600 red 5; palette 2 = tilt 7; sub 1 with 6 @ 700; "
        + "sub 2 with 2 @ 5; sub 2 masters; wave 1 = saw wheel size 100 rate 7 spread 9 on 3 + 40; wave 2 = peak roll size 9 rate 9 spread 9 on 4;";
    private static final String CUES = "1 @ 100; 2 @ 200 red 300; 3 @ 400; record 5 up 1 down 2 move 3 delay 0; clear; "
        + "3 pan 900; 4 roll 200; record 9 up 4 down 5 move 50 delay 1 follow 30 link 12; clear; "
        + "1 @ 10; record 12 down 20; clear; cue 20 up 6 follow 7 link 5; cue 21 follow 8 link 5;";
    private static final String REST = "park 7 @ 7; park 36 @ 8; event 1 = 700 cue 9; event 2 = 70 cue 20; 40 iris 300; 4 @ 500; blind 12;";
    /** What any text adds to. */
    private static final String ANY_TEXT = "state 5 0";

    public static void main(String[] args) {
        for (int black = 0; black <= 1; black++) {
            statementsOfValues(black == 1);
            statementsOfRows(black == 1);
            statementsOfCues(black == 1);
            statementsOfTheRest(black == 1);
            calls(black == 1);
        }
        CHECKS.finish();
    }

    /** A cue fades and will be followed, a roller moves, and no master is as it was at first. */
    private static LightDesk rich(boolean black) {
        LightDesk desk = Checks.desk(RIG, ROWS, CUES, REST);
        desk.jump(5);
        desk.advance(20);
        desk.jump(9);
        desk.advance(3);
        desk.hold(true);
        desk.advance(2);
        desk.grand(900);
        for (int s = 1; s <= 8; s++) {
            desk.fader(s, 100 * s);
            desk.bump(s, s > 2);
        }
        for (int w = 1; w <= 4; w++) {
            desk.run(w, w < 4);
        }
        desk.black(black);
        return desk;
    }

    /** Time goes by until CURRENT is followed, and some more, so that what is taken then still fades. */
    private static void playOn(LightDesk desk) {
        desk.hold(false);
        desk.advance(30);
    }

    private static Map<String, String> answers(LightDesk desk) {
        Map<String, String> answers = new LinkedHashMap<>();
        for (String line : Picture.of(desk).split("\n")) {
            int colon = line.indexOf(':');
            answers.put(line.substring(0, colon), line.substring(colon));
        }
        return answers;
    }

    /** The questions whose answers are not the same, but those that may be. */
    private static String changed(Map<String, String> was, Map<String, String> is, String may) {
        TreeSet<String> names = new TreeSet<>(was.keySet());
        names.addAll(is.keySet());
        StringBuilder changed = new StringBuilder();
        for (String name : names) {
            if (!name.matches(may) && !String.valueOf(was.get(name)).equals(is.get(name))) {
                changed.append(name).append(was.get(name)).append(" -> ").append(is.get(name)).append("; ");
            }
        }
        return changed.toString();
    }

    /** The statement changes no other answers than these, and those behind the second bar as time goes on. */
    private static void only(boolean black, String statement, String may, String mayLater) {
        LightDesk desk = rich(black);
        Map<String, String> was = answers(desk);
        CHECKS.same("done of " + statement, Checks.text(desk, statement), 1);
        Map<String, String> is = answers(desk);
        CHECKS.same("others changed by " + statement, changed(was, is, ANY_TEXT + "|" + may), "");
        CHECKS.same("changed at all by " + statement, changed(was, is, ANY_TEXT).isEmpty(), false);
        CHECKS.same("undo of " + statement, desk.undo(), 1);
        CHECKS.same("left by undo of " + statement, changed(was, answers(desk), ""), "");
        LightDesk without = rich(black);
        LightDesk with = rich(black);
        Checks.text(with, statement);
        playOn(without);
        playOn(with);
        CHECKS.same("followed", without.state(2), 12);
        CHECKS.same("others changed later by " + statement,
            changed(answers(without), answers(with), ANY_TEXT + "|" + may + "|" + mayLater), "");
    }

    private static void only(boolean black, String statement, String may) {
        only(black, statement, may, "none");
    }

    private static void statementsOfValues(boolean black) {
        // In BLIND the values come into cue 12 alone, which is taken later.
        only(black, "6 @ 300;", "change 12 6 0|cue 12 6", "(level|tracked) 6 0|shown 6 0");
        only(black, "1 release;", "change 12 1 0|cue 12 6", "(level|tracked) 1 0|(shown|slot) 1 0|state 8 0");
        only(black, "2 palette 1;", "change 12 2 [01]|cue 12 6", "(level|tracked) 2 [01]|shown 2 0|slot [2-5] 0");
        only(black, "40 home;", "change 12 40 [04567]|cue 12 6");
        only(black, "clear;", "held 40 7|held 4 0|state 7 0|level (40 7|4 0)|shown 4 0|slot (27|30) 0");
    }

    private static void statementsOfRows(boolean black) {
        only(black, "patch 7 fine at 40;", "(unit|level) 7 \\d|shown 7 0|state 4 0");
        only(black, "patch 7 roller at 40;", "(unit|level) 7 \\d|shown 7 0|state 4 0");
        only(black, "unpatch 5;", "(unit|level) 5 \\d|shown 5 0|slot 35 0|state 4 0");
        only(black, "unpatch 6;", "(unit|level) 6 \\d|shown 6 0|sub 1 6|state 4 0");
        only(black, "group 2 = 1;", "group 2 0");
        only(black, "group 3 = 1 + 2;", "group 3 [01]");
        only(black, "palette 2 = tilt 8;", "palette 2 5");
        only(black, "palette 1 = none;", "palette 1 [01]");
        only(black, "sub 1 with 6 @ 600;", "sub 1 6|level 6 0|shown 6 0");
        only(black, "sub 1 none;", "sub 1 6|level 6 0|shown 6 0");
        only(black, "sub 1 masters;", "masters 1 0|level 6 0|shown 6 0");
        only(black, "sub 2 adds;", "masters 2 0|shown 2 0|slot 2 0");
        only(black, "sub 2 none;", "sub 2 2|shown 2 0|slot 2 0");
        only(black, "wave 4 = step wheel size 5 rate 6 spread 7 on 3;", "wave 4 \\d");
        only(black, "wave 1 = none;", "wave 1 \\d|level (3|40) 6|slot (16|26) 0");
    }

    private static void statementsOfCues(boolean black) {
        only(black, "cue 21 up 9;", "cue 21 1");
        only(black, "cue 21 stay;", "cue 21 5");
        only(black, "cue 21 loose;", "cue 21 7");
        only(black, "cue 22;", "cue 22 \\d|change 22 \\d+ \\d|state 3 0");
        only(black, "record 21;", "cue 21 6|change 21 (40 7|4 0)");
        only(black, "record 20 only;", "cue 2[01] 6|change 2[01] (40 7|4 0)");
        only(black, "update;", "cue 9 6|change 9 (40 7|4 0)|(held|tracked) (40 7|4 0)|state 7 0");
        only(black, "delete 21;", "cue 21 \\d|change 21 \\d+ \\d|state 3 0");
        only(black, "delete 12;", "cue 12 \\d|change 12 \\d+ \\d|state [36] 0", ".*");
        only(black, "copy 20 to 25;", "cue 25 \\d|change 25 \\d+ \\d|state 3 0");
        only(black, "copy 9 to 22;", "cue 22 \\d|change 22 \\d+ \\d|state 3 0");
        only(black, "block 21;", "cue 21 6|change 21 [1-4] \\d");
        only(black, "block 9;", "cue 9 6|change 9 [1-3] \\d");
        LightDesk blocked = rich(black);
        Checks.text(blocked, "block 21;");
        Map<String, String> was = answers(blocked);
        Checks.text(blocked, "unblock 21;");
        CHECKS.same("others changed by unblock", changed(was, answers(blocked), ANY_TEXT + "|cue 21 6|change 21 [1-4] \\d"), "");
        Checks.text(blocked, "unblock 20;");
        CHECKS.same("a cue of no changes, unblocked", changed(was, answers(blocked), ANY_TEXT + "|cue 21 6|change 21 [1-4] \\d"), "");
        CHECKS.same("its end", blocked.state(2), 9);
        playOn(blocked);
        LightDesk without = rich(black);
        playOn(without);
        CHECKS.same("changed later by block and unblock", changed(answers(without), answers(blocked), ANY_TEXT), "");
    }

    private static void statementsOfTheRest(boolean black) {
        only(black, "blind 9;", "state 6 0");
        only(black, "live;", "state 6 0");
        only(black, "park 36 @ 9;", "(park|slot) 36 0");
        only(black, "unpark 36;", "(park|slot) 36 0", "slot 36 0");
        only(black, "unpark all;", "(park|slot) (7|36) 0");
        only(black, "event 1 = none;", "event 1 -?\\d+");
        only(black, "event 3 = 699 cue 5;", "event 3 -?\\d+");
        sneaking(black);
    }

    /** A FADE is not the show, so undo() brings the programmer back and the FADE goes on behind it. */
    private static void sneaking(boolean black) {
        LightDesk desk = rich(black);
        Map<String, String> was = answers(desk);
        Checks.text(desk, "sneak 600;");
        String may = ANY_TEXT + "|held (40 7|4 0)|state [78] 0";
        CHECKS.same("others changed by sneak", changed(was, answers(desk), may), "");
        LightDesk undone = rich(black);
        Checks.text(undone, "sneak 600;");
        undone.undo();
        CHECKS.same("left by undo of sneak", changed(was, answers(undone), "state 8 0"), "");
        CHECKS.same("two more fade", undone.state(8), 2 + rich(black).state(8));
        LightDesk without = rich(black);
        playOn(without);
        playOn(desk);
        may += "|level (40 7|4 0)|shown 4 0|slot (27|30) 0";
        CHECKS.same("others changed later by sneak", changed(answers(without), answers(desk), may), "");
    }

    private static void calls(boolean black) {
        String[] names = {"grand", "fader 1", "bump 1", "fader 2", "bump 2", "run 1", "run 4", "black", "hold", "save", "end", "enter", "undo"};
        String[] may = {"grand 0 0|shown \\d+ 0|slot \\d+ 0", "fader 1 \\d|level 6 0|shown 6 0", "fader 1 \\d|level 6 0|shown 6 0",
            "fader 2 \\d|shown 2 0|slot 2 0", "fader 2 \\d|shown 2 0|slot 2 0", "run 1 0|level (3|40) 6|slot (16|26) 0", "run 4 0",
            "black 0 0|shown \\d+ 0|slot \\d+ 0", "hold 0 0", "none", "none", "none",
            "state [567] 0|event \\d+ -?\\d+|park \\d+ 0|slot \\d+ 0|held (40 7|4 0)|level (40 7|4 0)|shown 4 0"};
        for (int i = 0; i < names.length; i++) {
            LightDesk desk = rich(black);
            Map<String, String> was = answers(desk);
            call(desk, names[i]);
            CHECKS.same("others changed by " + names[i], changed(was, answers(desk), may[i]), "");
            LightDesk without = rich(black);
            playOn(without);
            playOn(desk);
            CHECKS.same("others changed later by " + names[i], changed(answers(without), answers(desk), may[i]), "");
        }
    }

    private static void call(LightDesk desk, String name) {
        switch (name) {
            case "grand" -> desk.grand(300);
            case "fader 1" -> desk.fader(1, 700);
            case "bump 1" -> desk.bump(1, true);
            case "fader 2" -> desk.fader(2, 700);
            case "bump 2" -> desk.bump(2, true);
            case "run 1" -> desk.run(1, false);
            case "run 4" -> desk.run(4, true);
            case "black" -> desk.black(desk.state(0) > 0);
            case "hold" -> desk.hold(false);
            case "save" -> desk.save();
            case "end" -> desk.end(0);
            case "enter" -> desk.enter();
            default -> desk.undo();
        }
    }
}
