import java.util.function.IntSupplier;

/** Checks told with the sentence of the document that they are about, and the ways to hold a desk against it. */
final class Edges {
    static final String[] KINDS = {"lamp", "fine", "warm", "relay", "tint", "glow", "head", "spot", "roller"};
    /** How many slots a unit of each kind has, and which parameters. */
    static final int[] WIDTHS = {1, 2, 1, 1, 4, 3, 7, 8, 2};
    static final String[] HAS = {"dim", "dim", "dim", "dim", "dim red green blue", "dim red green blue", "dim pan tilt wheel",
        "dim pan tilt wheel iris", "dim roll"};
    static final String[] PARAMETERS = {"dim", "red", "green", "blue", "pan", "tilt", "wheel", "iris", "roll"};
    static final int[] HOME = {0, 1000, 1000, 1000, 500, 500, 0, 1000, 0};

    private final Checks checks;
    private String sentence = "";

    Edges(String suite) {
        checks = new Checks(suite);
    }

    /** What follows is about this sentence. */
    void sentence(String words) {
        sentence = words;
    }

    void same(String what, long got, long want) {
        checks.same("[" + sentence + "] " + what, got, want);
    }

    void same(String what, String got, String want) {
        checks.same("[" + sentence + "] " + what, got, want);
    }

    void finish() {
        checks.finish();
    }

    /** Each statement of the text is done; what was on the tape is not. */
    void fine(LightDesk desk, String text) {
        desk.end(0);
        int due = (int) text.chars().filter(sign -> sign == ';').count();
        same("done of " + text, Checks.text(desk, text), due);
        same("fault of " + text, desk.fault(0), 0);
        same("place of " + text, desk.fault(1), -1);
    }

    /** A text of one statement that has a fault where the sign ^ stands (it is taken out): it does nothing. */
    void faulty(LightDesk desk, String marked, int fault) {
        int place = marked.indexOf('^');
        desk.end(0);
        String before = Picture.of(desk);
        same("done of " + marked, Checks.text(desk, marked.substring(0, place) + marked.substring(place + 1)), 0);
        same("fault of " + marked, desk.fault(0), fault);
        same("place of " + marked, desk.fault(1), place);
        same("tape behind " + marked, desk.state(9), 0);
        same("changed by " + marked, Picture.difference(before, Picture.of(desk)), "");
    }

    void faulty(LightDesk desk, int fault, String... marked) {
        for (String one : marked) {
            faulty(desk, one, fault);
        }
    }

    /** The call answers that, and nothing at all is changed. */
    void refused(LightDesk desk, String call, IntSupplier deed, int due) {
        String before = Picture.withTape(desk);
        same(call, deed.getAsInt(), due);
        same("changed by " + call, Picture.difference(before, Picture.withTape(desk)), "");
    }

    /** The units of a group, with a blank between. */
    static String units(LightDesk desk, int group) {
        StringBuilder text = new StringBuilder();
        for (int i = 0; desk.group(group, i) != -1; i++) {
            text.append(i > 0 ? " " : "").append(desk.group(group, i));
        }
        return text.toString();
    }

    /** Forty lamps, each at the slot of its number. */
    static String lamps() {
        StringBuilder text = new StringBuilder();
        for (int unit = 1; unit <= 40; unit++) {
            text.append("patch ").append(unit).append(" lamp at ").append(unit).append(';');
        }
        return text.toString();
    }

    /** Thirty cues, the tens from 10 to 300. */
    static String cues() {
        StringBuilder text = new StringBuilder();
        for (int i = 1; i <= 30; i++) {
            text.append("cue ").append(i * 10).append(';');
        }
        return text.toString();
    }
}
