/** All that a desk answers when it is asked, told line by line; asking changes nothing. */
final class Picture {
    private final StringBuilder lines = new StringBuilder();

    private Picture() {
    }

    /** Of the show, of playing and of what is seen. */
    static String of(LightDesk desk) {
        Picture picture = new Picture();
        for (int what = 0; what <= 8; what++) {
            picture.add("state", what, 0, desk.state(what));
        }
        picture.addMasters(desk);
        picture.addUnits(desk);
        picture.addRows(desk);
        picture.addCues(desk);
        return picture.lines.toString();
    }

    /** The tape and the latest fault, too. */
    static String withTape(LightDesk desk) {
        return of(desk) + "fault " + desk.fault(0) + " at " + desk.fault(1) + "\ntape " + Checks.tape(desk) + "\n";
    }

    /** The first line of the one that is not the same in the other; "" if there is none. */
    static String difference(String was, String is) {
        String[] before = was.split("\n");
        String[] now = is.split("\n");
        for (int i = 0; i < Math.max(before.length, now.length); i++) {
            String one = i < before.length ? before[i] : "nothing";
            String other = i < now.length ? now[i] : "nothing";
            if (!one.equals(other)) {
                return one + " -> " + other;
            }
        }
        return "";
    }

    private void add(String call, int a, int b, int answer) {
        lines.append(call).append(' ').append(a).append(' ').append(b).append(": ").append(answer).append('\n');
    }

    /** These can be asked only by setting them, so each is set back. */
    private void addMasters(LightDesk desk) {
        for (int s = 1; s <= 8; s++) {
            int fader = desk.fader(s, 0);
            desk.fader(s, fader);
            int bump = desk.bump(s, false);
            desk.bump(s, bump == 1);
            add("fader", s, bump, fader);
            add("masters", s, 0, desk.masters(s));
        }
        for (int w = 1; w <= 4; w++) {
            int runs = desk.run(w, false);
            desk.run(w, runs == 1);
            add("run", w, 0, runs);
        }
        int grand = desk.grand(0);
        desk.grand(grand);
        add("grand", 0, 0, grand);
        boolean black = desk.black(false);
        desk.black(black);
        add("black", 0, 0, black ? 1 : 0);
        boolean hold = desk.hold(false);
        desk.hold(hold);
        add("hold", 0, 0, hold ? 1 : 0);
    }

    private void addUnits(LightDesk desk) {
        for (int unit = 1; unit <= 40; unit++) {
            add("shown", unit, 0, desk.shown(unit));
            for (int what = 0; what <= 8; what++) {
                add("unit", unit, what, desk.unit(unit, what));
                add("level", unit, what, desk.level(unit, what));
                add("held", unit, what, desk.held(unit, what));
                add("tracked", unit, what, desk.tracked(desk.state(2), unit, what));
                add("sub", what, unit, desk.sub(what, unit));
            }
        }
        for (int k = 1; k <= 200; k++) {
            add("slot", k, 0, desk.slot(k));
            add("park", k, 0, desk.park(k));
        }
    }

    private void addRows(LightDesk desk) {
        for (int i = 1; i <= 12; i++) {
            for (int what = 0; what <= 40; what++) {
                add("group", i, what, desk.group(i, what));
            }
            for (int what = 0; what <= 8; what++) {
                add("palette", i, what, desk.palette(i, what));
            }
            for (int what = 0; what <= 45; what++) {
                add("wave", i, what, desk.wave(i, what));
            }
            add("event", i, desk.event(i, 1), desk.event(i, 0));
        }
    }

    private void addCues(LightDesk desk) {
        for (int i = 0; i < desk.state(3); i++) {
            int number = desk.cue(i, 0);
            for (int what = 0; what <= 7; what++) {
                add("cue", number, what, desk.cue(i, what));
            }
            for (int unit = 1; unit <= 40; unit++) {
                for (int parameter = 0; parameter <= 8; parameter++) {
                    add("change " + number, unit, parameter, desk.change(number, unit, parameter));
                }
            }
        }
    }
}
