import java.util.List;
import java.util.Random;

/** Runs of seeded random calls, each answer held against the model's. With two arguments: the first seed, and how many. */
public final class FuzzTest {
    private static final List<String> WORDS = List.of(
        "lamp", "fine", "warm", "relay", "tint", "glow", "head", "spot", "roller", "dim", "red", "green", "blue", "pan", "tilt", "wheel", "iris",
        "roll", "saw", "peak", "step", "up", "down", "move", "delay", "follow", "link", "stay", "loose", "limit", "curve", "invert", "swap",
        "patch", "unpatch", "group", "palette", "sub", "wave", "cue", "record", "update", "delete", "copy", "block", "unblock", "blind", "live",
        "clear", "sneak", "park", "unpark", "event", "at", "none", "with", "adds", "masters", "size", "rate", "spread", "on", "only", "to", "all",
        "thru", "full", "from", "home", "release", ";", "+", "-", "=", "@", "0", "1", "5", "999", "1000", "1001", "9999", "12345", "abcdefghij",
        "abcdefghi", "#", "\t", "", "\n");

    private final Random random;
    private final LightDesk desk = new LightDesk();
    private final Model model = new Model();
    private final StringBuilder log = new StringBuilder();
    private final int wild;
    private final int unitCount;
    private final int cueCount;
    private int wrong = 0;

    private FuzzTest(long seed) {
        random = new Random(seed);
        // Some runs make few faults, so that they get far; some make many.
        wild = seed % 3 == 0 ? 4 : seed % 3 == 1 ? 40 : 400;
        // Some have large shows, up to more cues than there can be and more bytes than can be saved.
        unitCount = seed % 5 == 0 ? 40 : 8;
        cueCount = seed % 7 == 0 ? 40 : 9;
    }

    public static void main(String[] args) {
        long first = args.length > 0 ? Long.parseLong(args[0]) : 1;
        long count = args.length > 1 ? Long.parseLong(args[1]) : 240;
        int bad = 0;
        for (long seed = first; seed < first + count && bad < 3; seed++) {
            FuzzTest run = new FuzzTest(seed);
            run.play();
            if (run.wrong > 0) {
                bad++;
                System.out.println("seed " + seed + ":\n" + run.log);
            }
        }
        System.out.println("FuzzTest: " + count + " runs, " + bad + " wrong");
        if (bad > 0) {
            System.exit(1);
        }
    }

    private void play() {
        text(rig());
        text(cues());
        for (int i = 0; i < 120 && wrong == 0; i++) {
            call();
        }
        for (int i = 0; i < 10 && wrong == 0; i++) {
            answer("undo()", desk.undo(), model.undo());
            lookAtAll();
        }
    }

    private void answer(String call, long got, long want) {
        if (!call.startsWith("feed")) {
            log.append(call).append(" -> ").append(got).append('\n');
        }
        if (got != want) {
            wrong++;
            log.append("   due is ").append(want).append('\n');
        }
    }

    /** Answers that are as due are not told in the log. */
    private void quiet(String call, long got, long want) {
        if (got != want) {
            answer(call, got, want);
        }
    }

    private void quiet(String call, int a, int b, long got, long want) {
        if (got != want) {
            answer(call + "(" + a + ", " + b + ")", got, want);
        }
    }

    private boolean chance(int of) {
        return random.nextInt(of) == 0;
    }

    private int pick(int... numbers) {
        return numbers[random.nextInt(numbers.length)];
    }

    private String word(String... words) {
        return words[random.nextInt(words.length)];
    }

    private int odd(int number) {
        return chance(wild) ? pick(-1, 0, 1, 9, 13, 41, 201, 256, 601, 1000, 1001, 9999) : number;
    }

    private String number(int number) {
        int odd = odd(number);
        return String.valueOf(odd < 0 ? 40 : odd);
    }

    private String unit() {
        int unit = 1 + random.nextInt(unitCount);
        // Mostly one that is patched.
        for (int i = 0; i < 8 && model.unit(unit, 0) == -1 && !chance(10); i++) {
            unit = 1 + random.nextInt(unitCount);
        }
        return number(unit);
    }

    private String freeUnit() {
        int unit = 1 + random.nextInt(unitCount);
        for (int i = 0; i < 8 && model.unit(unit, 0) != -1 && !chance(10); i++) {
            unit = 1 + random.nextInt(unitCount);
        }
        return number(unit);
    }

    private String cueThere() {
        int count = model.state(3);
        return count == 0 || chance(10) ? cue() : number(model.cue(random.nextInt(count), 0));
    }

    /** A statement ahead of one that needs the programmer's values. */
    private String held() {
        return chance(3) ? "" : set() + " " + what() + " " + what() + "; ";
    }

    private String level() {
        return number(chance(3) ? pick(0, 1, 500, 999, 1000) : random.nextInt(1001));
    }

    private String cue() {
        return number(1 + random.nextInt(cueCount));
    }

    private String time() {
        return number(chance(2) ? random.nextInt(12) : chance(9) ? 600 : random.nextInt(60));
    }

    private String kind() {
        return Model.KINDS.get(random.nextInt(9));
    }

    private String parameter() {
        return chance(3) ? "dim" : Model.PARAMETERS.get(random.nextInt(9));
    }

    private String rig() {
        StringBuilder text = new StringBuilder();
        int slot = 1;
        for (int unit = 1; unit <= unitCount; unit++) {
            if (!chance(5)) {
                String kind = kind();
                text.append("patch ").append(unit).append(' ').append(kind).append(" at ").append(slot).append(options()).append(';');
                slot += Model.SLOTS.get(Model.KINDS.indexOf(kind)).size() + (chance(3) ? 1 : 0);
            }
        }
        return text.toString();
    }

    private String cues() {
        StringBuilder text = new StringBuilder();
        for (int i = 1; i <= cueCount - 6; i++) {
            text.append(chance(2) ? "cue " : "all " + what() + " dim 5; record ").append(i + random.nextInt(2)).append(times()).append(';');
        }
        return text.toString();
    }

    private String options() {
        return (chance(4) ? " limit " + level() : "") + (chance(4) ? " curve " + number(random.nextInt(4)) : "") + (chance(4) ? " invert" : "")
            + (chance(4) ? " swap" : "") + (chance(wild) ? " limit 5" : "");
    }

    private String term() {
        int which = random.nextInt(10);
        return which == 0 ? "all" : which == 1 && model.group(1, 0) != -1 ? "group " + number(1 + random.nextInt(chance(4) ? 3 : 1)) : which < 5 ? unit() + " thru " + unit() : unit();
    }

    private String set() {
        if (chance(4)) {
            return "all";
        }
        StringBuilder text = new StringBuilder(term());
        while (chance(3)) {
            text.append(word(" + ", " - ", "+", " +")).append(term());
        }
        return text.toString();
    }

    private String what() {
        int which = random.nextInt(12);
        if (which == 0) {
            return "home";
        }
        if (which == 1) {
            return "release";
        }
        if (which == 2) {
            return "palette " + number(1 + random.nextInt(3));
        }
        String head = chance(3) ? "@ " : parameter() + " ";
        switch (random.nextInt(6)) {
            case 0:
                return head + level() + " thru " + level();
            case 1:
                return head + "full";
            case 2:
                return head + "from " + number(1 + random.nextInt(3));
            case 3:
                return head + word("+ ", "- ") + level();
            default:
                return head + level();
        }
    }

    private String times() {
        StringBuilder text = new StringBuilder();
        for (String name : Model.TIMES) {
            if (chance(3)) {
                boolean link = name.equals("link");
                text.append(' ').append(name).append(' ').append(link ? cue() : name.equals("follow") && chance(2) ? "0" : time());
            }
        }
        return text + (chance(6) && text.indexOf("follow") < 0 ? " stay" : "") + (chance(6) && text.indexOf("link") < 0 ? " loose" : "")
            + (chance(wild) ? " up 5" : "");
    }

    private String statement() {
        switch (random.nextInt(30)) {
            case 0:
                return "patch " + freeUnit() + " " + kind() + " at " + number(1 + random.nextInt(80)) + options();
            case 1:
                return chance(2) ? "unpatch " + unit() : "patch " + freeUnit() + " " + kind() + " at " + number(190 + random.nextInt(12)) + options();
            case 2:
                return "group " + number(1 + random.nextInt(3)) + word(" = ", "=") + set();
            case 3:
                return "palette " + number(1 + random.nextInt(3)) + " = " + (chance(6) ? "none" : parameter() + " " + level() + (chance(2) ? " red " + level() : ""));
            case 4:
                return "sub " + number(1 + random.nextInt(3)) + word(" none", " masters", " adds", " with " + set() + " @ " + level(), " with " + set() + "@" + level());
            case 5:
                return "wave " + number(1 + random.nextInt(3)) + " = " + (chance(6) ? "none" : word("saw", "peak", "step") + " " + parameter() + " size "
                    + level() + " rate " + level() + " spread " + level() + " on " + set());
            case 6:
            case 7:
                return "cue " + cue() + times();
            case 8:
            case 9:
            case 10:
                return held() + "record " + cue() + (chance(2) ? " only" : "") + times();
            case 11:
            case 12:
                return held() + "update";
            case 13:
                return chance(2) ? "delete " + cueThere() : "clear";
            case 14:
                return "copy " + cueThere() + " to " + number(1 + random.nextInt(chance(3) ? 999 : 12 + cueCount));
            case 15:
                return word("block ", "unblock ") + cueThere();
            case 16:
                return chance(2) ? "blind " + cueThere() : "live";
            case 17:
                return "live";
            case 18:
                return held() + "sneak " + time();
            case 19:
                return chance(2) ? "park " + number(1 + random.nextInt(40)) + "@" + number(random.nextInt(256)) : "unpark " + word("all", number(1 + random.nextInt(40)));
            case 20:
                return "event " + number(1 + random.nextInt(10)) + " = " + (chance(5) ? "none" : model.state(0) + random.nextInt(30) + " cue " + cue());
            default:
                StringBuilder text = new StringBuilder(set());
                do {
                    text.append(' ').append(what());
                } while (chance(2));
                return text.toString();
        }
    }

    private String texts() {
        StringBuilder text = new StringBuilder();
        do {
            text.append(statement()).append(word(";", "; ", " ;\n"));
        } while (!chance(3));
        while (chance(wild)) {
            int from = random.nextInt(text.length() + 1);
            int to = Math.min(text.length(), from + random.nextInt(4));
            text.replace(from, to, WORDS.get(random.nextInt(WORDS.size())));
        }
        if (chance(wild) && text.indexOf(" ") > 0) {
            String long_ = text.toString().replaceFirst(" ", " ".repeat(2 + random.nextInt(30)));
            return chance(2) ? long_ : "1" + " home".repeat(116 + random.nextInt(5)) + ";" + long_;
        }
        return text.toString();
    }

    private void text(String text) {
        log.append("text ").append(text).append('\n');
        for (int from = 0; from < text.length(); from += 20) {
            int[] five = new int[5];
            for (int i = 0; i < 20; i++) {
                int sign = from + i < text.length() ? text.charAt(from + i) & 255 : ' ';
                five[i / 4] = five[i / 4] << 8 | sign;
            }
            answer("feed", desk.feed(five[0], five[1], five[2], five[3], five[4]), model.feed(five));
        }
        answer("end", desk.end(text.length()), model.end(text.length()));
        answer("enter()", desk.enter(), model.enter());
        answer("fault(0)", desk.fault(0), model.fault(0));
        answer("fault(1)", desk.fault(1), model.fault(1));
        lookAtAll();
    }

    private void call() {
        int s = odd(1 + random.nextInt(4));
        int level = odd(random.nextInt(1001));
        boolean on = random.nextBoolean();
        switch (random.nextInt(20)) {
            case 0:
                answer("go()", desk.go(), model.go());
                break;
            case 1:
                answer("back()", desk.back(), model.back());
                break;
            case 2:
                int c = odd(1 + random.nextInt(cueCount));
                answer("jump(" + c + ")", desk.jump(c), model.jump(c));
                break;
            case 3:
                boolean hold = chance(3);
                answer("hold(" + hold + ")", desk.hold(hold) ? 1 : 0, model.hold(hold) ? 1 : 0);
                break;
            case 4:
            case 5:
            case 6:
                int n = odd(chance(9) ? random.nextInt(601) : random.nextInt(15));
                answer("advance(" + n + ")", desk.advance(n), model.advance(n));
                break;
            case 7:
                answer("fader(" + s + ", " + level + ")", desk.fader(s, level), model.fader(s, level));
                break;
            case 8:
                answer("bump(" + s + ", " + on + ")", desk.bump(s, on), model.bump(s, on));
                break;
            case 9:
                answer("grand(" + level + ")", desk.grand(level), model.grand(level));
                break;
            case 10:
                boolean black = chance(3);
                answer("black(" + black + ")", desk.black(black) ? 1 : 0, model.black(black) ? 1 : 0);
                break;
            case 11:
                answer("run(" + s + ", " + on + ")", desk.run(s, on), model.run(s, on));
                break;
            case 12:
                if (chance(2)) {
                    answer("undo()", desk.undo(), model.undo());
                }
                break;
            case 13:
                savedAndRead();
                break;
            default:
                text(texts());
                return;
        }
        lookAtAll();
    }

    private void savedAndRead() {
        answer("save()", desk.save(), model.save());
        for (int i = -1; i <= model.state(9); i++) {
            quiet("tape(" + i + ")", desk.tape(i), model.tape(i));
        }
        if (chance(4)) {
            answer("enter()", desk.enter(), model.enter());
            answer("fault(0)", desk.fault(0), model.fault(0));
        } else {
            answer("end(0)", desk.end(0), model.end(0));
        }
    }

    private void lookAtAll() {
        for (int what = -1; what <= 10; what++) {
            quiet("state(" + what + ")", desk.state(what), model.state(what));
        }
        for (int k = 0; k <= 201; k++) {
            quiet("slot(" + k + ")", desk.slot(k), model.slot(k));
            quiet("park(" + k + ")", desk.park(k), model.park(k));
        }
        for (int unit = 0; unit <= 41; unit++) {
            quiet("shown(" + unit + ")", desk.shown(unit), model.shown(unit));
            for (int what = -1; what <= 9; what++) {
                quiet("unit", unit, what, desk.unit(unit, what), model.unit(unit, what));
                quiet("level", unit, what, desk.level(unit, what), model.level(unit, what));
                quiet("held", unit, what, desk.held(unit, what), model.held(unit, what));
                quiet("sub", what, unit, desk.sub(what, unit), model.sub(what, unit));
            }
        }
        for (int i = -1; i <= 31; i++) {
            quiet("masters(" + i + ")", desk.masters(i), model.masters(i));
            for (int what = -1; what <= 12; what++) {
                quiet("cue", i, what, desk.cue(i, what), model.cue(i, what));
                quiet("group", i, what, desk.group(i, what), model.group(i, what));
                quiet("palette", i, what, desk.palette(i, what), model.palette(i, what));
                quiet("event", i, what, desk.event(i, what), model.event(i, what));
                quiet("wave", i, what, desk.wave(i, what), model.wave(i, what));
            }
        }
        for (int i = 0; i < 60; i++) {
            int c = chance(3) ? pick(-1, 0, 999, 1000) : 1 + random.nextInt(cueCount);
            int unit = random.nextInt(unitCount + 2);
            int parameter = random.nextInt(11) - 1;
            String names = "(" + c + ", " + unit + ", " + parameter + ")";
            quiet("tracked" + names, desk.tracked(c, unit, parameter), model.tracked(c, unit, parameter));
            quiet("origin" + names, desk.origin(c, unit, parameter), model.origin(c, unit, parameter));
            quiet("change" + names, desk.change(c, unit, parameter), model.change(c, unit, parameter));
        }
    }
}
