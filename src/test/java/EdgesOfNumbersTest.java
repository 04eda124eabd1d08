import java.util.TreeSet;

/** "Terms" 1 and 2: the least and the greatest of each number that a statement tells, and the first beyond them on each side. */
public final class EdgesOfNumbersTest {
    private static final Edges EDGES = new Edges("EdgesOfNumbersTest");
    private static final int GREATEST_NUMBER = 9999;
    /** One unit of each kind, each a slot away from the next. */
    private static final String RIG = "patch 1 lamp at 1; patch 2 fine at 3; patch 3 warm at 6; patch 4 relay at 8; patch 5 tint at 10;"
        + "patch 6 glow at 15; patch 7 head at 19; patch 8 spot at 27; patch 9 roller at 36;";
    /** For each parameter a unit of the rig that has it. */
    private static final int[] HAVING = {1, 5, 6, 5, 7, 8, 7, 8, 9};

    /** Whether the desk shows what the statement with that number has done. */
    private interface Probe {
        boolean holds(LightDesk desk, int number);
    }

    public static void main(String[] args) {
        units();
        unitsOfSets();
        groups();
        palettes();
        subs();
        waves();
        events();
        slots();
        bytes();
        levels();
        levelsOfParameters();
        curves();
        cuesThatMayCome();
        links();
        times();
        timesOfEvents();
        cuesThatHaveToBeThere();
        digits();
        EDGES.finish();
    }

    /** The sign ? of the statement stands for the number; outside of its bounds that is fault 3 at it. */
    private static void within(String setup, String statement, int least, int greatest, Probe probe) {
        TreeSet<Integer> numbers = new TreeSet<>();
        for (int step = -1; step <= 1; step++) {
            numbers.add(least + step);
            numbers.add(greatest + step);
        }
        numbers.add(0);
        numbers.add(GREATEST_NUMBER);
        int place = statement.indexOf('?');
        for (int number : numbers.subSet(0, GREATEST_NUMBER + 1)) {
            LightDesk desk = Checks.desk(setup);
            if (number >= least && number <= greatest) {
                EDGES.fine(desk, statement.replace("?", String.valueOf(number)));
                EDGES.same("what is done by " + statement + " of " + number, probe.holds(desk, number) ? 1 : 0, 1);
            } else {
                EDGES.faulty(desk, statement.substring(0, place) + "^" + number + statement.substring(place + 1), 3);
            }
        }
    }

    private static void units() {
        EDGES.sentence("UNITS are 1 .. 40; 3: a number that can't be, of a unit");
        within("", "patch ? lamp at 100;", 1, 40, (desk, n) -> desk.unit(n, 0) == 0 && desk.state(4) == 1);
        within(Edges.lamps(), "? @ 5;", 1, 40, (desk, n) -> desk.held(n, 0) == 5 && desk.state(7) == 1);
        within(Edges.lamps(), "? thru 20 @ 5;", 1, 40, (desk, n) -> desk.held(n, 0) == 5 && desk.state(7) == Math.abs(20 - n) + 1);
        within(Edges.lamps(), "20 thru ? @ 5;", 1, 40, (desk, n) -> desk.held(n, 0) == 5 && desk.state(7) == Math.abs(20 - n) + 1);
        within(Edges.lamps(), "all - ? @ 5;", 1, 40, (desk, n) -> desk.held(n, 0) == -1 && desk.state(7) == 39);
        within(Edges.lamps(), "20 + ? @ 5;", 1, 40, (desk, n) -> desk.held(n, 0) == 5);
    }

    private static void unitsOfSets() {
        EDGES.sentence("3: a number that can't be, of a unit, in the set of each statement that has one");
        within(Edges.lamps(), "unpatch ?;", 1, 40, (desk, n) -> desk.unit(n, 0) == -1 && desk.state(4) == 39);
        within(Edges.lamps(), "group 1 = ?;", 1, 40, (desk, n) -> Edges.units(desk, 1).equals(String.valueOf(n)));
        within(Edges.lamps(), "sub 1 with ? @ 7;", 1, 40, (desk, n) -> desk.sub(1, n) == 7);
        within(Edges.lamps(), "wave 1 = saw dim size 1 rate 1 spread 1 on ?;", 1, 40, (desk, n) -> desk.wave(1, 5) == n);
        within(Edges.lamps(), "wave 1 = saw dim size 1 rate 1 spread 1 on 40 thru ?;", 1, 40, (desk, n) -> desk.wave(1, 5 + 40 - n) == n);
    }

    private static void groups() {
        EDGES.sentence("GROUPS 1 .. 12; 3: a number that can't be, of a group");
        StringBuilder all = new StringBuilder(RIG);
        for (int g = 1; g <= 12; g++) {
            all.append("group ").append(g).append(" = ").append(g < 10 ? g : g - 9).append(';');
        }
        within(RIG, "group ? = 2 + 1;", 1, 12, (desk, n) -> Edges.units(desk, n).equals("2 1"));
        within(all.toString(), "group ? @ 5;", 1, 12, (desk, n) -> desk.held(n < 10 ? n : n - 9, 0) == 5 && desk.state(7) == 1);
        within(all.toString(), "4 + group ? @ 5;", 1, 12, (desk, n) -> desk.held(n < 10 ? n : n - 9, 0) == 5);
        within(all.toString(), "unpatch group ?;", 1, 12, (desk, n) -> desk.unit(n < 10 ? n : n - 9, 0) == -1);
        within(all.toString(), "all - group ? @ 5;", 1, 12, (desk, n) -> desk.held(n < 10 ? n : n - 9, 0) == -1);
    }

    private static void palettes() {
        EDGES.sentence("PALETTES 1 .. 12; 3: a number that can't be, of a palette");
        StringBuilder all = new StringBuilder(RIG);
        for (int k = 1; k <= 12; k++) {
            all.append("palette ").append(k).append(" = dim ").append(k * 50).append(';');
        }
        within("", "palette ? = dim 5;", 1, 12, (desk, n) -> desk.palette(n, 0) == 5);
        within(all.toString(), "palette ? = none;", 1, 12, (desk, n) -> desk.palette(n, 0) == -1);
        within(all.toString(), "1 palette ?;", 1, 12, (desk, n) -> desk.held(1, 0) == 2000 + n && desk.level(1, 0) == n * 50);
        within(all.toString(), "1 @ from ?;", 1, 12, (desk, n) -> desk.held(1, 0) == 2000 + n && desk.level(1, 0) == n * 50);
    }

    private static void subs() {
        EDGES.sentence("SUBS 1 .. 8; 3: a number that can't be, of a sub");
        within(RIG, "sub ? with 1 @ 5;", 1, 8, (desk, n) -> desk.sub(n, 1) == 5);
        within(RIG, "sub ? masters;", 1, 8, (desk, n) -> desk.masters(n) == 1);
        within(RIG, "sub ? adds;", 1, 8, (desk, n) -> desk.masters(n) == 0);
        within(RIG, "sub ? none;", 1, 8, (desk, n) -> desk.sub(n, 1) == -1);
    }

    private static void waves() {
        EDGES.sentence("WAVES 1 .. 4; 3: a number that can't be, of a wave");
        within(RIG, "wave ? = step roll size 1 rate 2 spread 3 on 1;", 1, 4, (desk, n) -> desk.wave(n, 0) == 2 && desk.wave(n, 4) == 3);
        within(RIG, "wave ? = none;", 1, 4, (desk, n) -> desk.wave(n, 0) == -1);
    }

    private static void events() {
        EDGES.sentence("EVENTS 1 .. 10; 3: a number that can't be, of an event");
        within("", "event ? = 7 cue 5;", 1, 10, (desk, n) -> desk.event(n, 0) == 7 && desk.event(n, 1) == 5);
        within("", "event ? = none;", 1, 10, (desk, n) -> desk.event(n, 0) == -1);
    }

    private static void slots() {
        EDGES.sentence("SLOTS 1 .. 200; 3: a number that can't be, of a slot");
        within("", "patch 1 lamp at ?;", 1, 200, (desk, n) -> desk.unit(1, 1) == n);
        within("", "park ? @ 7;", 1, 200, (desk, n) -> desk.park(n) == 7 && desk.slot(n) == 7);
        within("park 1 @ 7; park 2 @ 7; park 199 @ 7; park 200 @ 7;", "unpark ?;", 1, 200, (desk, n) -> desk.park(n) == -1 && desk.slot(n) == 0);
    }

    private static void bytes() {
        EDGES.sentence("a byte 0 .. 255; 3: a number that can't be, of a byte");
        within("", "park 5 @ ?;", 0, 255, (desk, n) -> desk.park(5) == n && desk.slot(5) == n);
    }

    private static void levels() {
        EDGES.sentence("LEVELS are 0 .. 1000; 3: a number that can't be, of a level; sizes, rates, spreads are levels");
        within("", "patch 1 lamp at 5 limit ?;", 0, 1000, (desk, n) -> desk.unit(1, 2) == n);
        within(RIG, "sub 1 with 1 @ ?;", 0, 1000, (desk, n) -> desk.sub(1, 1) == n);
        within(RIG, "wave 1 = saw dim size ? rate 5 spread 5 on 1;", 0, 1000, (desk, n) -> desk.wave(1, 2) == n);
        within(RIG, "wave 1 = saw dim size 5 rate ? spread 5 on 1;", 0, 1000, (desk, n) -> desk.wave(1, 3) == n);
        within(RIG, "wave 1 = saw dim size 5 rate 5 spread ? on 1;", 0, 1000, (desk, n) -> desk.wave(1, 4) == n);
        within(RIG, "1 @ ?;", 0, 1000, (desk, n) -> desk.held(1, 0) == n);
        within(RIG, "1 + 2 @ ? thru 500;", 0, 1000, (desk, n) -> desk.held(1, 0) == n && desk.held(2, 0) == 500);
        within(RIG, "1 + 2 @ 500 thru ?;", 0, 1000, (desk, n) -> desk.held(1, 0) == 500 && desk.held(2, 0) == n);
        within(RIG, "1 @ + ?;", 0, 1000, (desk, n) -> desk.held(1, 0) == n);
        within(RIG + "1 @ full;", "1 @ - ?;", 0, 1000, (desk, n) -> desk.held(1, 0) == 1000 - n);
    }

    private static void levelsOfParameters() {
        EDGES.sentence("3: a number that can't be, of a level, of each parameter by its name");
        for (int i = 0; i < Edges.PARAMETERS.length; i++) {
            int parameter = i;
            int unit = HAVING[i];
            within("", "palette 1 = " + Edges.PARAMETERS[i] + " ?;", 0, 1000, (desk, n) -> desk.palette(1, parameter) == n);
            within(RIG, unit + " " + Edges.PARAMETERS[i] + " ?;", 0, 1000,
                (desk, n) -> desk.held(unit, parameter) == n && desk.level(unit, parameter) == n);
            within(RIG, unit + " " + Edges.PARAMETERS[i] + " - ?;", 0, 1000, (desk, n) -> desk.held(unit, parameter) >= 0);
        }
    }

    private static void curves() {
        EDGES.sentence("a CURVE 0 .. 3; 3: a number that can't be, of a CURVE");
        within("", "patch 1 lamp at 5 curve ?;", 0, 3, (desk, n) -> desk.unit(1, 3) == n);
    }

    private static void cuesThatMayCome() {
        EDGES.sentence("CUES have the numbers 1 .. 999; 3: a number that can't be, of a cue that may come");
        within("", "cue ?;", 1, 999, (desk, n) -> desk.cue(0, 0) == n && desk.state(3) == 1);
        within(RIG + "1 @ 5;", "record ?;", 1, 999, (desk, n) -> desk.change(n, 1, 0) == 5);
        within(RIG + "1 @ 5;", "record ? only;", 1, 999, (desk, n) -> desk.change(n, 1, 0) == 5);
        within("cue 500 up 7;", "copy 500 to ?;", 1, 999, (desk, n) -> desk.state(3) == 2 && desk.cue(n < 500 ? 0 : 1, 1) == 7);
    }

    private static void links() {
        EDGES.sentence("3: a number that can't be, of a cue of a link or event (1 .. 999)");
        within("", "cue 5 link ?;", 1, 999, (desk, n) -> desk.cue(0, 7) == n);
        within(RIG + "1 @ 5;", "record 5 link ?;", 1, 999, (desk, n) -> desk.cue(0, 7) == n);
        within("", "event 1 = 5 cue ?;", 1, 999, (desk, n) -> desk.event(1, 1) == n);
    }

    private static void times() {
        EDGES.sentence("time out of its bounds (times, of sneak, too, are 0 .. 600)");
        String[] names = {"up", "down", "move", "delay", "follow"};
        for (int i = 0; i < names.length; i++) {
            int what = i + 1;
            within("", "cue 5 " + names[i] + " ?;", 0, 600, (desk, n) -> desk.cue(0, what) == n);
            within(RIG + "1 @ 5;", "record 5 " + names[i] + " ?;", 0, 600, (desk, n) -> desk.cue(0, what) == n);
            within(RIG + "1 @ 5;", "record 5 only " + names[i] + " ?;", 0, 600, (desk, n) -> desk.cue(0, what) == n);
        }
        within(RIG + "1 @ 500;", "sneak ?;", 0, 600, (desk, n) -> {
            int begin = desk.level(1, 0);
            desk.advance(Math.max(0, n - 1));
            boolean fades = desk.state(8) == (n == 0 ? 0 : 1);
            desk.advance(1);
            return begin == (n == 0 ? 0 : 500) && fades && desk.state(8) == 0;
        });
    }

    private static void timesOfEvents() {
        EDGES.sentence("of events any NUMBER");
        within("", "event 1 = ? cue 5;", 0, GREATEST_NUMBER, (desk, n) -> desk.event(1, 0) == n);
    }

    private static void cuesThatHaveToBeThere() {
        EDGES.sentence("of a cue that has to be there it is 2 alone");
        LightDesk desk = Checks.desk("cue 1; cue 998; cue 500;");
        for (String verb : new String[] {"delete", "block", "unblock", "blind"}) {
            for (int number : new int[] {0, 2, 499, 501, 997, 999, 1000, GREATEST_NUMBER}) {
                EDGES.faulty(desk, verb + " ^" + number + ";", 2);
            }
            for (int number : new int[] {1, 500, 998}) {
                LightDesk other = Checks.desk("cue 1; cue 998; cue 500;");
                EDGES.fine(other, verb + " " + number + ";");
            }
        }
        EDGES.faulty(desk, 2, "copy ^0 to 5;", "copy ^2 to 5;", "copy ^999 to 0;", "copy ^1000 to 1000;", "copy ^9999 to 1;");
        EDGES.fine(desk, "copy 1 to 2; copy 998 to 999;");
        EDGES.faulty(new LightDesk(), 2, "delete ^1;", "block ^1;", "unblock ^1;", "blind ^1;", "copy ^1 to 2;");
    }

    private static void digits() {
        EDGES.sentence("NUMBERS, one to four digits");
        EDGES.fine(new LightDesk(), "event 0001=0007 cue 0009;");
        EDGES.fine(new LightDesk(), "event 01=9999 cue 009;");
        LightDesk desk = new LightDesk();
        EDGES.faulty(desk, 1, "event ^00001 = 5 cue 5;", "event 1 = ^10000 cue 5;", "event 1 = ^00000 cue 5;", "event 1 = 5 cue ^00005;",
            "event 1 = 5 cue ^123456789012345678901234567890;");
        EDGES.fine(desk, "event 1=0042 cue 0100;");
        EDGES.same("zeros ahead count not", desk.event(1, 0), 42);
        EDGES.same("zeros ahead count not", desk.event(1, 1), 100);
    }
}
