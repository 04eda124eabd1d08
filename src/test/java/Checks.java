/** What the tests share: counting what is wrong, and handing texts to a desk. */
final class Checks {
    private final String suite;
    private int wrong = 0;
    private int looked = 0;

    Checks(String suite) {
        this.suite = suite;
    }

    void same(String what, long got, long want) {
        looked++;
        if (got != want) {
            wrong++;
            System.out.println(suite + ": " + what + " answered " + got + ", due is " + want);
        }
    }

    void same(String what, String got, String want) {
        looked++;
        if (!want.equals(got)) {
            wrong++;
            System.out.println(suite + ": " + what + " answered\n" + got + "\ndue is\n" + want);
        }
    }

    void same(String what, boolean got, boolean want) {
        same(what, got ? 1 : 0, want ? 1 : 0);
    }

    void finish() {
        System.out.println(suite + ": " + looked + " looked at, " + wrong + " wrong");
        if (wrong > 0) {
            System.exit(1);
        }
    }

    /** Puts a text behind the tape, padded by blanks up to twenty bytes, and cuts it to its length again. */
    static void put(LightDesk desk, String text) {
        int before = desk.state(9);
        int[] five = new int[5];
        for (int from = 0; from < text.length(); from += 20) {
            for (int i = 0; i < 5; i++) {
                int number = 0;
                for (int k = 0; k < 4; k++) {
                    int place = from + i * 4 + k;
                    number = number << 8 | (place < text.length() ? text.charAt(place) & 255 : ' ');
                }
                five[i] = number;
            }
            desk.feed(five[0], five[1], five[2], five[3], five[4]);
        }
        desk.end(before + text.length());
    }

    /** How many statements of the text were done. */
    static int text(LightDesk desk, String text) {
        put(desk, text);
        return desk.enter();
    }

    static LightDesk desk(String... texts) {
        LightDesk desk = new LightDesk();
        for (String text : texts) {
            text(desk, text);
            if (desk.fault(0) != 0) {
                throw new IllegalStateException("fault " + desk.fault(0) + " at " + desk.fault(1) + " of " + text);
            }
        }
        return desk;
    }

    static String tape(LightDesk desk) {
        StringBuilder text = new StringBuilder();
        for (int i = 0; i < desk.state(9); i++) {
            text.append((char) desk.tape(i));
        }
        return text.toString();
    }

    static String saved(LightDesk desk) {
        desk.save();
        String text = tape(desk);
        desk.end(0);
        return text;
    }
}
