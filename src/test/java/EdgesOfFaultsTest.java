/** "Terms" 2: the tape, the tokens, and the FAULTS 1 to 7 with their places and which is met ahead of which. */
public final class EdgesOfFaultsTest {
    private static final Edges EDGES = new Edges("EdgesOfFaultsTest");
    private static final String RIG = "patch 1 lamp at 1; patch 2 tint at 2; patch 3 head at 10; patch 5 lamp at 30; group 1 = 1 + 2;";

    public static void main(String[] args) {
        tape();
        blanks();
        wordsAndSigns();
        ends();
        tokensOfAStatement();
        tokensOfEachStatement();
        lastOfManyNumbers();
        repeatedWords();
        groupOrSet();
        nothingThere();
        slotsBeyond();
        slotsOfOthers();
        thirtyFirstCue();
        setsWithoutUnits();
        programmerWithoutValues();
        notNow();
        updateNotNow();
        textAheadOfOthers();
        fromTheLeft();
        numberAheadOfOthers();
        aheadAndBehind();
        EDGES.finish();
    }

    private static void tape() {
        EDGES.sentence("THE TAPE has at most 6000 bytes");
        LightDesk desk = new LightDesk();
        Checks.put(desk, "live;".repeat(1200));
        EDGES.same("bytes", desk.state(9), 6000);
        EDGES.refused(desk, "feed at 6000", () -> desk.feed(1, 2, 3, 4, 5), -1);
        EDGES.same("statements of 6000 bytes", desk.enter(), 1200);
        EDGES.same("bytes behind it", desk.state(9), 0);
        for (int length : new int[] {5980, 5981, 5999}) {
            Checks.put(desk, " ".repeat(length));
            EDGES.same("feed behind " + length, desk.feed(0, 0, 0, 0, 0), length == 5980 ? 6000 : -1);
            EDGES.same("bytes behind " + length, desk.state(9), length == 5980 ? 6000 : length);
            desk.end(0);
        }
    }

    private static void blanks() {
        EDGES.sentence("Blanks are 10 and 32");
        LightDesk desk = Checks.desk("patch 1 lamp at 1;");
        EDGES.fine(desk, " \n 1\n@\n\n500 \n; ");
        EDGES.fine(desk, "\n");
        EDGES.fine(desk, "all@600home release;");
        EDGES.fine(desk, "1thru1@600;");
        for (int sign = 0; sign < 256; sign++) {
            boolean begins = sign >= 'a' && sign <= 'z' || sign >= '0' && sign <= '9' || ";+-=@".indexOf(sign) >= 0;
            if (!begins && sign != 10 && sign != 32) {
                EDGES.faulty(desk, "1^" + (char) sign + "@ 5;", 1);
                EDGES.faulty(desk, "1 @ 5^" + (char) sign + ";", 1);
                EDGES.faulty(desk, "^" + (char) sign, 1);
            }
        }
        EDGES.sentence("Blanks part tokens");
        EDGES.faulty(desk, 1, "^li ve;", "1 @ 5 ^0;", "^un patch 1;", "^liv e;");
        EDGES.sentence("A TEXT is a row of STATEMENTS: none at all");
        EDGES.same("a tape of none", desk.enter(), 0);
        EDGES.same("its fault", desk.fault(0), 0);
        EDGES.fine(desk, " ".repeat(6000));
        EDGES.fine(desk, "\n".repeat(6000));
    }

    private static void wordsAndSigns() {
        EDGES.sentence("WORDS, a to z, at most 9 letters; too long, at its first byte");
        LightDesk desk = Checks.desk(RIG);
        EDGES.faulty(desk, 1, "^unpatchxx 1;", "^unpatchxxx 1;", "^unpatc 1;", "^unpatchunpatch 1;", "1 @ ^fullfullfu;", "1 ^aaaaaaaaa 5;",
            "1 ^zzzzzzzzzz 5;", "1 @ ^" + "full".repeat(400) + ";", "^a", "^abcdefghij", "^allall 5;", "1 @ 5 ^homehome;");
        EDGES.sentence("NUMBERS, one to four digits; too long, at its first byte");
        EDGES.faulty(desk, 1, "1 @ ^00010;", "^00001 @ 5;", "1 @ ^" + "1".repeat(1000) + ";", "1 thru ^00002 @ 5;", "1 @ ^12345", "^12345");
        EDGES.fine(desk, "0001 @ 0010;");
        EDGES.sentence("; + - = @ are tokens of one byte each");
        EDGES.faulty(desk, 1, "1 + ^+ 2 @ 5;", "1 - ^- 2 @ 5;", "1 @ ^@ 5;", "group 5 = ^= 1;", "^;", "1 @ + ^- 5;", "1 + ^- 2 @ 5;", "1 ^;@ 5;");
        EDGES.fine(desk, "2+1-1@+5@-6;");
        EDGES.same("+ and - need no blanks", desk.held(2, 0), 0);
    }

    private static void ends() {
        EDGES.sentence("1: the end, at its length, with which no statement goes on");
        LightDesk desk = Checks.desk(RIG);
        String[] texts = {"live", "live ", "live\n\n\n", "1 @", "1 @ 5", "patch 7 lamp at 100 limit", "group", "group 1", "cue 5 up 3", "1 + ",
            "record 1 only",
            "1", "all", "palette 1 = dim 5", "unpark", "event 1 =  "};
        for (String text : texts) {
            EDGES.faulty(desk, text + "^", 1);
        }
        EDGES.faulty(desk, " ".repeat(5996) + "live^", 1);
        EDGES.faulty(desk, "live" + " ".repeat(5996) + "^", 1);
        EDGES.same("the end behind whole statements", Checks.text(desk, "live;clear ;  live\n"), 2);
        EDGES.same("the end behind whole statements", desk.fault(1), 19);
    }

    private static void tokensOfAStatement() {
        EDGES.sentence("1: the 121st token of a statement");
        LightDesk desk = Checks.desk(RIG);
        String most = "1" + " home".repeat(118);
        EDGES.fine(desk, most + ";");
        EDGES.fine(desk, most + " ;" + most + ";\n" + most + ";");
        EDGES.faulty(desk, 1, most + " home^;", most + " home ^;", most + " home ^home;", most + " home ^home home;", most + " home ^12345;",
            most + " home ^#",
            most + " home ^abcdefghij;", most + " home^", most + " home  ^", most + " home ^5 @;");
        EDGES.sentence("the first token with which no statement goes on is ahead of the 121st one");
        EDGES.faulty(desk, 1, most + " ^5 home home;", "1 home ^5" + " home".repeat(130) + ";");
        EDGES.sentence("the 121st token is fault 1, ahead of all others");
        EDGES.faulty(desk, 1, "41" + " home".repeat(119) + "^;", "1 @ 2000" + " home".repeat(117) + "^;");
        EDGES.faulty(desk, "^41" + " home".repeat(118) + ";", 3);
        EDGES.sentence("the 121st token of a statement, not of the text");
        EDGES.same("a text of 150 tokens behind one of 120", Checks.text(desk, most + ";" + "live;".repeat(75) + most + " home;"), 76);
        EDGES.same("its place", desk.fault(1), most.length() + 1 + 75 * 5 + most.length() + 5);
    }

    /** With 120 tokens and with 121, of the statements that can have so many. */
    private static void tokensOfEachStatement() {
        EDGES.sentence("the 121st token, of each statement that can have so many");
        LightDesk desk = Checks.desk("patch 1 lamp at 1; patch 2 lamp at 2;");
        EDGES.fine(desk, "group 1 = 1" + " + 2".repeat(57) + ";");
        EDGES.fine(desk, "group 1 = 1 thru 2" + " + 2".repeat(56) + ";");
        EDGES.faulty(desk, "group 1 = 1 thru 2" + " + 2".repeat(57) + "^;", 1);
        EDGES.fine(desk, "1 thru 2" + " + 1".repeat(57) + " home home;");
        EDGES.faulty(desk, "1 thru 2" + " + 1".repeat(57) + " home home home^;", 1);
        EDGES.fine(desk, "1 @ 5 thru 6" + " @ 7".repeat(57) + ";");
        EDGES.faulty(desk, "1 @ 5 thru 6" + " @ 7".repeat(57) + " home^;", 1);
        EDGES.fine(desk, "unpatch 1" + " - 1 + 1".repeat(29) + ";");
        EDGES.faulty(desk, "unpatch 2" + " + 2".repeat(59) + "^;", 1);
        EDGES.fine(desk, "sub 1 with 2" + " + 2".repeat(56) + " @ 5;");
        EDGES.faulty(desk, "sub 1 with 2 thru 1" + " + 2".repeat(56) + " @ 5^;", 1);
        EDGES.fine(desk, "wave 1 = saw dim size 1 rate 1 spread 1 on 2" + " + 2".repeat(53) + ";");
        EDGES.faulty(desk, "wave 1 = saw dim size 1 rate 1 spread 1 on 2 thru 1" + " + 2".repeat(52) + " + ^2;", 1);
        EDGES.fine(desk, "palette 1 = dim 1 red 2 green 3 blue 4 pan 5 tilt 6 wheel 7 iris 8 roll 9;");
    }

    /** The last numbers of statements that are as long as they can be. */
    private static void lastOfManyNumbers() {
        EDGES.sentence("Others are met from the left: up to the last number of 120 tokens");
        LightDesk desk = Checks.desk("patch 1 lamp at 1; patch 2 lamp at 2;");
        EDGES.fine(desk, "1" + " @ 5".repeat(58) + " @ 1000;");
        EDGES.same("the last one counts", desk.held(1, 0), 1000);
        EDGES.faulty(desk, "1" + " @ 5".repeat(58) + " @ ^1001;", 3);
        EDGES.faulty(desk, "1" + " palette 5".repeat(58) + " palette ^13;", 3);
        EDGES.faulty(desk, "unpatch 1" + " + 2".repeat(57) + " + ^3;", 2);
        EDGES.faulty(desk, "unpatch 1" + " + 2".repeat(57) + " + ^41;", 3);
        EDGES.faulty(desk, "unpatch ^1" + " - 2 + 2".repeat(28) + " - 2 - 1;", 6);
        EDGES.faulty(desk, "sub 1 with 1" + " + 2".repeat(56) + " @ ^1001;", 3);
        EDGES.fine(desk, "group 1 = 1" + " + 2 - 2".repeat(28) + " + 2;");
        EDGES.same("the last term counts", Edges.units(desk, 1), "1 2");
    }

    private static void repeatedWords() {
        EDGES.sentence("1: a word of times that the statement has already (follow and stay are one such word, link and loose, too)");
        LightDesk desk = Checks.desk(RIG, "1 @ 5;");
        String[] words = {"up 1", "down 1", "move 1", "delay 1", "follow 1", "link 1", "stay", "loose"};
        for (int i = 0; i < 8; i++) {
            for (int k = 0; k < 8; k++) {
                boolean same = i == k || Math.min(i, k) == 4 && Math.max(i, k) == 6 || Math.min(i, k) == 5 && Math.max(i, k) == 7;
                if (same) {
                    EDGES.faulty(desk, 1, "cue 5 " + words[i] + " ^" + words[k] + ";", "record 5 only " + words[i] + " ^" + words[k] + ";",
                        "record 5 " + words[i] + (i == 0 ? " move 2" : " up 2") + " ^" + words[k] + ";");
                } else {
                    EDGES.fine(desk, "cue 5 " + words[i] + " " + words[k] + ";");
                    EDGES.fine(desk, "record 5 " + words[i] + " " + words[k] + ";");
                }
            }
        }
        EDGES.fine(desk, "cue 5 up 1; cue 5 up 1; cue 5 stay; cue 5 stay;");
        EDGES.sentence("1: a word of limit .. swap that the statement has already");
        String[] options = {"limit 5", "curve 1", "invert", "swap"};
        for (int i = 0; i < 4; i++) {
            for (int k = 0; k < 4; k++) {
                if (i == k) {
                    EDGES.faulty(desk, "patch 7 lamp at 100 " + options[i] + " ^" + options[k] + ";", 1);
                } else {
                    EDGES.fine(desk, "patch 7 lamp at 100 " + options[i] + " " + options[k] + "; unpatch 7;");
                }
            }
        }
        EDGES.sentence("1: a parameter of a palette that the statement has already");
        String[] names = {"dim", "red", "green", "blue", "pan", "tilt", "wheel", "iris", "roll"};
        for (int i = 0; i < 9; i++) {
            for (int k = 0; k < 9; k++) {
                String begun = "palette 1 = " + names[i] + " 5 ";
                if (i == k) {
                    EDGES.faulty(desk, begun + "^" + names[k] + " 5;", 1);
                } else {
                    EDGES.fine(desk, begun + names[k] + " 5;");
                }
            }
        }
        EDGES.sentence("a parameter of a set may be there again");
        EDGES.fine(desk, "2 red 5 red 5 @ 5 @ 5 dim 5 palette 1 palette 1 home home release release;");
    }

    private static void groupOrSet() {
        EDGES.sentence("A group N that begins a statement is a set, if no = is behind it");
        LightDesk desk = Checks.desk(RIG);
        EDGES.fine(desk, "group 1 @ 5;");
        EDGES.fine(desk, "group 1 + 5 - 1 @ 6;");
        EDGES.fine(desk, "group 2 = 5;");
        EDGES.fine(desk, "group 1 home;");
        EDGES.faulty(desk, 1, "group ^= 1;", "group 1 ^;", "group 1 ^thru 2 @ 5;", "group 1 + ^= 5;", "group 1 @ ^= 5;", "group 1 + group 2 ^= 5;",
            "1 ^= 5;");
        EDGES.faulty(desk, "group ^3 @ 5;", 2);
        EDGES.fine(desk, "group 3 = 1;");
    }

    private static void nothingThere() {
        EDGES.sentence("2: a unit alone that is not patched");
        LightDesk desk = Checks.desk(RIG);
        EDGES.faulty(desk, 2, "^4 @ 5;", "^40 @ 5;", "1 + ^4 @ 5;", "1 - ^4 @ 5;", "unpatch ^4;", "unpatch 1 + ^6;", "group 5 = ^4;",
            "sub 1 with ^4 @ 5;",
            "wave 1 = saw dim size 1 rate 1 spread 1 on ^4;", "all + ^4 @ 5;", "4 thru 4 + ^4 @ 5;");
        EDGES.sentence("a unit of N thru M may be one that is not patched");
        EDGES.fine(desk, "4 thru 6 @ 5; 40 thru 5 @ 5; 1 - 4 thru 4 @ 5; 4 thru 4 + 1 @ 5;");
        EDGES.sentence("2: a group without units");
        EDGES.faulty(desk, 2, "group ^2 @ 5;", "group ^12 @ 5;", "1 + group ^2 @ 5;", "1 - group ^2 @ 5;", "unpatch group ^2;",
            "group 2 = group ^2;");
        EDGES.sentence("2: a group that has none left");
        EDGES.fine(desk, "group 2 = 5;");
        EDGES.fine(desk, "unpatch 5;");
        EDGES.faulty(desk, 2, "group ^2 @ 5;", "^5 @ 5;");
        desk.undo();
        EDGES.fine(desk, "group 2 @ 5;");
        EDGES.sentence("palettes, subs, waves, events, parks that have nothing are no fault");
        EDGES.fine(desk, "1 palette 12; 1 @ from 12; palette 12 = none; sub 8 none; wave 4 = none; event 10 = none; unpark 200; unpark all;");
    }

    private static void slotsBeyond() {
        EDGES.sentence("4: the unit's slots go beyond 200 (told at the N behind at)");
        for (int i = 0; i < Edges.KINDS.length; i++) {
            LightDesk desk = new LightDesk();
            int last = 201 - Edges.WIDTHS[i];
            for (int first = last + 1; first <= 200; first++) {
                EDGES.faulty(desk, "patch 1 " + Edges.KINDS[i] + " at ^" + first + ";", 4);
            }
            EDGES.faulty(desk, "patch 1 " + Edges.KINDS[i] + " at ^201;", 3);
            EDGES.fine(desk, "patch 1 " + Edges.KINDS[i] + " at " + last + ";");
        }
    }

    private static void slotsOfOthers() {
        EDGES.sentence("no two units share a slot; 4: one is another unit's");
        for (int i = 0; i < Edges.KINDS.length; i++) {
            for (int k = 0; k < Edges.KINDS.length; k++) {
                LightDesk desk = Checks.desk("patch 1 " + Edges.KINDS[i] + " at 100;");
                int ahead = 100 - Edges.WIDTHS[k];
                int behind = 100 + Edges.WIDTHS[i];
                EDGES.faulty(desk, "patch 2 " + Edges.KINDS[k] + " at ^" + (ahead + 1) + ";", 4);
                EDGES.faulty(desk, "patch 2 " + Edges.KINDS[k] + " at ^" + (behind - 1) + ";", 4);
                EDGES.faulty(desk, "patch 2 " + Edges.KINDS[k] + " at ^100;", 4);
                EDGES.fine(desk, "patch 2 " + Edges.KINDS[k] + " at " + ahead + "; patch 3 " + Edges.KINDS[k] + " at " + behind + ";");
            }
        }
        EDGES.sentence("4: another unit's in the midst of its slots");
        LightDesk desk = Checks.desk("patch 1 lamp at 104;");
        EDGES.faulty(desk, "patch 2 spot at ^100;", 4);
        EDGES.sentence("slots of a unit that is unpatched are free");
        EDGES.fine(desk, "unpatch 1; patch 2 spot at 100;");
        EDGES.sentence("a slot that has one of PARKS is no unit's");
        EDGES.fine(desk, "park 50 @ 5; patch 3 lamp at 50;");
        EDGES.sentence("all slots taken");
        StringBuilder text = new StringBuilder();
        for (int unit = 1; unit <= 25; unit++) {
            text.append("patch ").append(unit).append(" spot at ").append(unit * 8 - 7).append(';');
        }
        LightDesk full = Checks.desk(text.toString());
        for (int k = 1; k <= 200; k++) {
            EDGES.same("fault at slot " + k, Checks.text(full, "patch 26 lamp at " + k + ";") + full.fault(0), 4);
        }
        EDGES.same("units", full.state(4), 25);
    }

    private static void thirtyFirstCue() {
        EDGES.sentence("CUES (at most 30); 5: the 31st cue");
        LightDesk desk = Checks.desk("patch 1 lamp at 1; 1 @ 5;", Edges.cues().replace("cue 300;", ""));
        EDGES.same("29 cues", desk.state(3), 29);
        EDGES.fine(desk, "cue 999;");
        EDGES.same("30 cues", desk.state(3), 30);
        EDGES.faulty(desk, 5, "cue ^1;", "cue ^300 up 601;", "record ^300;", "record ^1 only up 601;", "copy 10 to ^300;", "copy 999 to ^998;");
        EDGES.sentence("a cue that is there is not the 31st");
        EDGES.fine(desk, "cue 10 up 5; cue 999 up 5; record 10; record 999 only; blind 10; live; block 10; unblock 10;");
        EDGES.sentence("5: of a cue that may come: 3 is ahead of it");
        EDGES.faulty(desk, 3, "cue ^0;", "cue ^1000;", "record ^0;", "record ^1000;", "copy 10 to ^0;", "copy 10 to ^1000;");
        EDGES.sentence("a link or an event needs no cue");
        EDGES.fine(desk, "cue 10 link 5; event 1 = 5 cue 5;");
        EDGES.sentence("with one gone another may come");
        EDGES.fine(desk, "delete 999; copy 10 to 1;");
        EDGES.faulty(desk, "cue ^2;", 5);
        EDGES.fine(desk, "delete 1; record 2; delete 10; cue 3;");
        EDGES.same("30 cues", desk.state(3), 30);
    }

    private static void setsWithoutUnits() {
        EDGES.sentence("6: a set without units (behind its terms, at its first token)");
        LightDesk desk = Checks.desk(RIG);
        EDGES.faulty(desk, 6, "^1 - 1 @ 5;", "^6 thru 40 @ 5;", "^40 thru 6 @ 5;", "^4 thru 4 @ 5;", "^all - all @ 5;", "^group 1 - group 1 @ 5;",
            "^group 1 - 1 - 2 @ 5;", "unpatch ^1 - 1;", "unpatch ^group 1 - 2 thru 1;", "group 5 = ^4 thru 4;", "group 1 = ^group 1 - group 1;",
            "sub 1 with ^1 - 1 @ 5;", "wave 1 = saw dim size 1 rate 1 spread 1 on ^4 thru 4;", "^1 - all + 4 thru 4 @ 5;");
        EDGES.sentence("6: all, when nothing is patched");
        EDGES.faulty(new LightDesk(), 6, "^all @ 5;", "unpatch ^all;", "group 1 = ^all;", "^1 thru 40 @ 5;", "sub 1 with ^all @ 5;",
            "wave 1 = saw dim size 1 rate 1 spread 1 on ^all;");
        EDGES.sentence("6 is met behind the set's terms, ahead of what is behind the set");
        EDGES.faulty(desk, 6, "^1 - 1 @ 1001;", "sub 1 with ^1 - 1 @ 1001;", "^4 thru 4 palette 13;");
        EDGES.faulty(desk, 3, "1 - 1 + ^41 @ 5;", "sub ^9 with 1 - 1 @ 5;", "group ^13 = 1 - 1;",
            "wave 1 = saw dim size ^1001 rate 1 spread 1 on 1 - 1;", "wave ^5 = saw dim size 1 rate 1 spread 1 on 1 - 1;");
        EDGES.faulty(desk, 2, "1 - 1 + ^4 @ 5;", "1 - 1 - group ^2 @ 5;");
        EDGES.sentence("a set that has a unit again");
        EDGES.fine(desk, "1 - 1 + 1 @ 5; 1 - 1 + group 1 @ 5; 4 thru 4 + 1 @ 5;");
    }

    private static void programmerWithoutValues() {
        EDGES.sentence("6: a programmer without values (of record, update, sneak: at the word, ahead of all else of it)");
        LightDesk desk = Checks.desk(RIG, "cue 5;");
        desk.jump(5);
        String[] marked = {"^record 5;", "^record 0;", "^record 5 up 601;", "^record 1000 only;", "  ^update;", "^sneak 5;", "^sneak 601;"};
        EDGES.faulty(desk, 6, marked);
        EDGES.fine(desk, "1 @ 5; clear;");
        EDGES.faulty(desk, 6, marked);
        EDGES.fine(desk, "1 @ 5; 1 release;");
        EDGES.faulty(desk, 6, marked);
        EDGES.fine(desk, "5 @ 5; unpatch 5;");
        EDGES.faulty(desk, 6, marked);
        EDGES.fine(desk, "blind 5; 1 @ 5;");
        EDGES.sentence("6: the values of BLIND's cue are not the programmer's");
        EDGES.faulty(desk, 6, marked);
        EDGES.sentence("6: the 31st cue is behind it");
        LightDesk full = Checks.desk(Edges.cues());
        EDGES.faulty(full, "^record 5;", 6);
        EDGES.sentence("one value is enough");
        EDGES.fine(desk, "live; 1 @ 0; record 5; update; 1 @ 0; sneak 5;");
        EDGES.sentence("6: update and sneak have made it empty");
        EDGES.faulty(desk, 6, marked);
        EDGES.sentence("1 is ahead of it");
        EDGES.faulty(desk, 1, "record ^;", "update ^5;", "sneak 5 ^5;");
    }

    private static void notNow() {
        EDGES.sentence("7: a unit to be patched that is (at its N)");
        LightDesk desk = Checks.desk(RIG);
        EDGES.faulty(desk, 7, "patch ^1 lamp at 100;", "patch ^1 lamp at 1;", "patch ^1 spot at 201 limit 1001;", "patch ^5 lamp at 200;");
        EDGES.fine(desk, "patch 40 lamp at 200;");
        EDGES.faulty(desk, "patch ^40 lamp at 100;", 7);
        EDGES.fine(desk, "unpatch 40; patch 40 tint at 100;");
        EDGES.sentence("7: a cue's number to be copied to that is there (behind 3, ahead of 5)");
        EDGES.fine(desk, "cue 5; cue 6;");
        EDGES.faulty(desk, 7, "copy 5 to ^5;", "copy 5 to ^6;", "copy 6 to ^5;");
        EDGES.faulty(desk, 3, "copy 5 to ^0;", "copy 5 to ^1000;");
        EDGES.faulty(desk, 2, "copy ^7 to 5;", "copy ^7 to 0;", "copy ^7 to 7;");
        LightDesk full = Checks.desk(Edges.cues());
        EDGES.faulty(full, 7, "copy 10 to ^10;", "copy 10 to ^300;");
        EDGES.faulty(full, "copy 10 to ^11;", 5);
    }

    private static void updateNotNow() {
        EDGES.sentence("7: update when CURRENT is 0 (at the word, behind 6)");
        LightDesk desk = Checks.desk(RIG, "cue 1;");
        EDGES.faulty(desk, " ^update;", 6);
        EDGES.fine(desk, "1 @ 5;");
        EDGES.faulty(desk, " ^update;", 7);
        EDGES.sentence("7: update when there is no cue at or ahead of CURRENT");
        desk.jump(1);
        EDGES.fine(desk, "delete 1; cue 2;");
        EDGES.same("CURRENT", desk.state(2), 1);
        EDGES.faulty(desk, "^update;", 7);
        EDGES.fine(desk, "delete 2;");
        EDGES.faulty(desk, "^update;", 7);
        EDGES.fine(desk, "clear;");
        EDGES.faulty(desk, "^update;", 6);
        EDGES.sentence("a cue at CURRENT, or ahead of it, is enough");
        EDGES.fine(desk, "1 @ 5; cue 1; update;");
        EDGES.same("the change", desk.change(1, 1, 0), 5);
        LightDesk ahead = Checks.desk(RIG, "cue 1; cue 9; 1 @ 5;");
        ahead.jump(9);
        EDGES.fine(ahead, "delete 9; update;");
        EDGES.same("the change", ahead.change(1, 1, 0), 5);
    }

    private static void textAheadOfOthers() {
        EDGES.sentence("1 is met as it is read, ahead of all others");
        LightDesk desk = Checks.desk(RIG, Edges.cues());
        EDGES.faulty(desk, 1, "41 @ 5 ^5;", "4 @ 5 ^:", "1 - 1 @ 5 ^none;", "patch 1 lamp at 0 ^at;", "patch 6 lamp at 1 limit ^limit;",
            "cue 5 up 601 ^up 5;",
            "copy 5 to 10 ^to;", "record 0 only ^only;", "update ^update;", "group 13 = 41^", "sneak 601 ^12345;", "delete 5 ^abcdefghij;",
            "event 11 = 5 cue 0 ^@;");
    }

    private static void fromTheLeft() {
        EDGES.sentence("Others are met from the left");
        LightDesk desk = Checks.desk(RIG);
        EDGES.faulty(desk, "^4 + 41 @ 5;", 2);
        EDGES.faulty(desk, "^41 + 4 @ 5;", 3);
        EDGES.faulty(desk, "1 + ^4 + 41 @ 1001;", 2);
        EDGES.faulty(desk, "1 @ ^1001 palette 13;", 3);
        EDGES.faulty(desk, "1 palette ^13 @ 1001;", 3);
        EDGES.faulty(desk, "1 @ 5 thru ^1001 red 1001;", 3);
        EDGES.faulty(desk, "1 @ ^1001 thru 1001;", 3);
        EDGES.faulty(desk, "patch ^1 lamp at 201 limit 1001;", 7);
        EDGES.faulty(desk, "patch 6 lamp at ^1 limit 1001 curve 4;", 4);
        EDGES.faulty(desk, "patch 6 lamp at 100 limit ^1001 curve 4;", 3);
        EDGES.faulty(desk, "patch 6 lamp at 100 curve ^4 limit 1001;", 3);
        EDGES.faulty(desk, "cue 5 up ^601 down 601 link 0;", 3);
        EDGES.faulty(desk, "cue 5 link ^0 up 601;", 3);
        EDGES.faulty(desk, "cue ^0 up 601;", 3);
        EDGES.faulty(desk, "palette ^0 = dim 1001;", 3);
        EDGES.faulty(desk, "palette 1 = red ^1001 dim 1001;", 3);
        EDGES.faulty(desk, "sub ^0 with 4 @ 1001;", 3);
        EDGES.faulty(desk, "sub 1 with ^4 @ 1001;", 2);
        EDGES.faulty(desk, "sub 1 with 1 @ ^1001;", 3);
        EDGES.faulty(desk, "wave ^5 = saw dim size 1001 rate 1001 spread 1001 on 4;", 3);
        EDGES.faulty(desk, "wave 1 = saw dim size 5 rate ^1001 spread 1001 on 4;", 3);
        EDGES.faulty(desk, "wave 1 = saw dim size 5 rate 5 spread ^1001 on 4;", 3);
        EDGES.faulty(desk, "wave 1 = saw dim size 5 rate 5 spread 5 on ^4 + 41;", 2);
        EDGES.faulty(desk, "park ^201 @ 256;", 3);
        EDGES.faulty(desk, "event ^11 = 5 cue 0;", 3);
        EDGES.faulty(desk, "copy ^0 to 0;", 2);
        EDGES.faulty(desk, "group ^13 = 4;", 3);
        EDGES.faulty(desk, "^41 thru 42 @ 5;", 3);
        EDGES.faulty(desk, "1 thru ^42 @ 5;", 3);
    }

    private static void numberAheadOfOthers() {
        EDGES.sentence("3: of a unit (ahead of 2, 7), group (ahead of 2)");
        LightDesk desk = Checks.desk(Edges.lamps());
        EDGES.faulty(desk, 3, "^0 @ 5;", "^41 @ 5;", "patch ^0 lamp at 100;", "patch ^41 lamp at 100;", "group ^0 @ 5;", "group ^13 @ 5;",
            "1 - group ^13 @ 5;",
            "1 - ^41 @ 5;", "unpatch ^0;");
    }

    private static void aheadAndBehind() {
        EDGES.sentence("With a FAULT the statement does nothing, those ahead of it are done, those behind it are not read");
        String[] faults = {"1 @ 2 ;;", "4 @ 5;", "1 @ 1001;", "patch 6 lamp at 1;", "record 5;", "1 - 1 @ 5;", "patch 1 lamp at 100;"};
        int[] numbers = {1, 2, 3, 4, 5, 6, 7};
        int[] places = {7, 0, 4, 16, 7, 0, 6};
        String ahead = "1 @ 7; park 9 @ 8; ";
        for (int i = 0; i < faults.length; i++) {
            LightDesk desk = Checks.desk(RIG, Edges.cues());
            int more = i == 0 ? 1 : 0;
            EDGES.same("done with fault " + numbers[i], Checks.text(desk, ahead + faults[i] + " 1 @ 9; nothing #"), 2 + more);
            EDGES.same("fault", desk.fault(0), numbers[i]);
            EDGES.same("place", desk.fault(1), ahead.length() + places[i]);
            EDGES.same("what is ahead is done", desk.held(1, 0), i == 0 ? 2 : 7);
            EDGES.same("what is ahead is done", desk.park(9), 8);
            EDGES.same("one text to undo", desk.state(5), 3);
            EDGES.same("the tape is empty", desk.state(9), 0);
            EDGES.fine(desk, "live;");
        }
        EDGES.sentence("a whole statement alone does what it does, though many of its parts are ahead of the fault");
        LightDesk desk = Checks.desk(RIG, "1 @ 5; record 5 up 7; palette 1 = dim 5; sub 1 with 1 @ 5; wave 1 = saw dim size 1 rate 1 spread 1 on 1;");
        EDGES.faulty(desk, 3, "1 @ 6 red 7 home palette ^0;", "palette 1 = dim 6 red ^1001;", "cue 5 up 8 down ^601;", "cue 6 up ^601;",
            "record 5 up 8 stay link ^0;", "sub 1 with all @ ^1001;", "event 1 = 5 cue ^0;", "park 5 @ ^256;",
            "patch 6 lamp at 100 limit 5 curve ^4;");
        EDGES.faulty(desk, 2, "unpatch 1 + 2 + ^4;", "group 1 = 5 + ^4;", "wave 1 = step red size 5 rate 5 spread 5 on 2 + ^4;");
    }
}
