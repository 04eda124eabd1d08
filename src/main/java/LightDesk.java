import java.util.Arrays;

/** A lighting desk of a theatre: its show is edited by texts, played by the clock, and seen as bytes of slots. */
public final class LightDesk {
    public static final int NONE = -1;

    private static final int NO_SUCH = -2;
    private static final int NO_LEVEL = -4;

    private static final int TAPE_ROOM = 6000;
    private static final int FEED_BYTES = 20;
    private static final int PAST_TEXTS = 8;
    private static final int UNITS = 40;
    private static final int SLOTS = 200;
    private static final int GROUPS = 12;
    private static final int PALETTES = 12;
    private static final int SUBS = 8;
    private static final int WAVES = 4;
    private static final int EVENTS = 10;
    private static final int CUES = 30;
    private static final int GREATEST_CUE = 999;
    private static final int FULL = 1000;
    private static final int LONGEST_TIME = 600;
    private static final int MOST_FOLLOWED = 30;

    private static final int PARAMETERS = 9;
    private static final int CELLS = 360;
    private static final int DIM = 0;
    private static final int RED = 1;
    private static final int BLUE = 3;
    private static final int PAN = 4;
    private static final int TILT = 5;
    private static final int IRIS = 7;
    private static final int ROLL = 8;
    private static final int[] HOME = {0, 1000, 1000, 1000, 500, 500, 0, 1000, 0};

    private static final int KINDS = 9;
    private static final int WARM = 2;
    private static final int RELAY = 3;
    private static final int GLOW = 5;
    private static final int ROLLER = 8;
    /** For each kind one bit for each parameter that a unit of it has. */
    private static final int[] HAS = {1, 1, 1, 1, 15, 15, 113, 241, 257};
    private static final int[] SLOTS_OF_KIND = {1, 2, 1, 1, 4, 3, 7, 8, 2};
    /** Eight slots for each kind: ten times the parameter, and which part of its level lies there. */
    private static final int[] LAYOUT = {
        0, 0, 0, 0, 0, 0, 0, 0,
        1, 2, 0, 0, 0, 0, 0, 0,
        0, 0, 0, 0, 0, 0, 0, 0,
        0, 0, 0, 0, 0, 0, 0, 0,
        0, 10, 20, 30, 0, 0, 0, 0,
        10, 20, 30, 0, 0, 0, 0, 0,
        1, 2, 41, 42, 51, 52, 60, 0,
        1, 2, 41, 42, 51, 52, 60, 70,
        0, 80, 0, 0, 0, 0, 0, 0};
    private static final int LAYOUT_STRIDE = 8;
    private static final int WHOLE = 0;
    private static final int HIGH = 1;

    /** A value from a palette is held as this and the palette's number. */
    private static final int FROM = 2000;

    // What a row of the patch holds.
    private static final int KIND = 0;
    private static final int FIRST_SLOT = 1;
    private static final int LIMIT = 2;
    private static final int CURVE = 3;
    private static final int INVERTED = 4;
    private static final int SWAPPED = 5;
    private static final int PATCH_WIDTH = 6;
    private static final int POSITION = 6;

    // What a row of a cue's times holds.
    private static final int UP = 0;
    private static final int DOWN = 1;
    private static final int MOVE = 2;
    private static final int DELAY = 3;
    private static final int FOLLOW = 4;
    private static final int LINK = 5;
    private static final int TIMES = 6;

    // What a row of a wave holds, and its shapes.
    private static final int SHAPE = 0;
    private static final int MOVED = 1;
    private static final int SIZE = 2;
    private static final int RATE = 3;
    private static final int SPREAD = 4;
    private static final int WAVE_WIDTH = 5;
    private static final int SAW = 0;
    private static final int PEAK = 1;

    // What a row of an event holds.
    private static final int TIME = 0;
    private static final int TARGET = 1;
    private static final int EVENT_WIDTH = 2;

    // The words of the language; each one's code is its place among them.
    private static final int WORDS = 70;
    private static final int LONGEST_WORD = 9;
    private static final int LONGEST_NUMBER = 4;
    private static final String NAMES = "lamp fine warm relay tint glow head spot roller dim red green blue pan tilt wheel iris roll saw peak step ";
    private static final String DETAILS = "up down move delay follow link stay loose limit curve invert swap ";
    private static final String VERBS = "patch unpatch group palette sub wave cue record update delete copy block unblock blind live clear sneak park unpark event ";
    private static final String JOINTS = "at none with adds masters size rate spread on only to all thru full from home release ";
    private static final int WORD_PARAMETER = 9;
    private static final int WORD_SHAPE = 18;
    private static final int WORD_UP = 21;
    private static final int WORD_LINK = 26;
    private static final int WORD_STAY = 27;
    private static final int WORD_LOOSE = 28;
    private static final int WORD_LIMIT = 29;
    private static final int WORD_INVERT = 31;
    private static final int WORD_SWAP = 32;
    private static final int WORD_PATCH = 33;
    private static final int WORD_UNPATCH = 34;
    private static final int WORD_GROUP = 35;
    private static final int WORD_PALETTE = 36;
    private static final int WORD_SUB = 37;
    private static final int WORD_WAVE = 38;
    private static final int WORD_CUE = 39;
    private static final int WORD_RECORD = 40;
    private static final int WORD_UPDATE = 41;
    private static final int WORD_DELETE = 42;
    private static final int WORD_COPY = 43;
    private static final int WORD_BLOCK = 44;
    private static final int WORD_UNBLOCK = 45;
    private static final int WORD_BLIND = 46;
    private static final int WORD_LIVE = 47;
    private static final int WORD_CLEAR = 48;
    private static final int WORD_SNEAK = 49;
    private static final int WORD_PARK = 50;
    private static final int WORD_UNPARK = 51;
    private static final int WORD_EVENT = 52;
    private static final int WORD_AT = 53;
    private static final int WORD_NONE = 54;
    private static final int WORD_WITH = 55;
    private static final int WORD_ADDS = 56;
    private static final int WORD_MASTERS = 57;
    private static final int WORD_SIZE = 58;
    private static final int WORD_RATE = 59;
    private static final int WORD_SPREAD = 60;
    private static final int WORD_ON = 61;
    private static final int WORD_ONLY = 62;
    private static final int WORD_TO = 63;
    private static final int WORD_ALL = 64;
    private static final int WORD_THRU = 65;
    private static final int WORD_FULL = 66;
    private static final int WORD_FROM = 67;
    private static final int WORD_HOME = 68;
    private static final int WORD_RELEASE = 69;

    // The codes of the other tokens.
    private static final int SEMICOLON = 70;
    private static final int PLUS = 71;
    private static final int MINUS = 72;
    private static final int EQUALS = 73;
    private static final int AT_SIGN = 74;
    private static final int NUMBER = 75;
    private static final int UNREADABLE = 76;
    private static final int OVER = 77;
    private static final int MOST_TOKENS = 120;

    /** The verb of a statement that has none: a set with what it gets. */
    private static final int SET_VALUES = 78;

    // Where a statement keeps what it tells; the places ahead of these are those of times, palettes and the like.
    private static final int SUBJECT = 9;
    private static final int OBJECT = 10;
    private static final int EXTRA = 11;
    private static final int TOLD = 12;
    private static final int NOT_TOLD = -2;

    // What has to be looked at ahead of doing a statement.
    private static final int ROLE_ANY = 0;
    private static final int ROLE_UNIT = 1;
    private static final int ROLE_UNIT_ALONE = 2;
    private static final int ROLE_UNIT_TO_PATCH = 3;
    private static final int ROLE_GROUP = 4;
    private static final int ROLE_GROUP_WITH_UNITS = 5;
    private static final int ROLE_PALETTE = 6;
    private static final int ROLE_SUB = 7;
    private static final int ROLE_WAVE = 8;
    private static final int ROLE_EVENT = 9;
    private static final int ROLE_SLOT = 10;
    private static final int ROLE_FIRST_SLOT = 11;
    private static final int ROLE_BYTE = 12;
    private static final int ROLE_LEVEL = 13;
    private static final int ROLE_CURVE = 14;
    private static final int ROLE_TIME = 15;
    private static final int ROLE_CUE_NUMBER = 16;
    private static final int ROLE_CUE_TO_COME = 17;
    private static final int ROLE_CUE_TO_COPY_TO = 18;
    private static final int ROLE_CUE_THERE = 19;
    private static final int ROLE_UNITS_OF_SET = 20;
    private static final int ROLE_HELD_VALUES = 21;
    private static final int ROLE_CUE_TO_UPDATE = 22;
    private static final int ROLES = 23;
    /** The least and the greatest number of each role. */
    private static final int[] LEAST = {0, 1, 1, 1, 1, 1, 1, 1, 1, 1, 1, 1, 0, 0, 0, 0, 1, 1, 1, 0, 0, 0, 0};
    private static final int[] GREATEST = {
        9999, 40, 40, 40, 12, 12, 12, 8, 4, 10, 200, 200, 255, 1000, 3, 600, 999, 999, 999, 9999, 9999, 9999, 9999};

    private static final int FAULT_TEXT = 1;
    private static final int FAULT_NOTHING_THERE = 2;
    private static final int FAULT_NUMBER = 3;
    private static final int FAULT_SLOT = 4;
    private static final int FAULT_TOO_MANY_CUES = 5;
    private static final int FAULT_NOTHING_TO_USE = 6;
    private static final int FAULT_NOT_NOW = 7;

    // The terms of a set: sign, which of these, and two numbers.
    private static final int TERM_STRIDE = 4;
    private static final int TERM_ALL = 0;
    private static final int TERM_GROUP = 1;
    private static final int TERM_UNIT = 2;
    private static final int TERM_THRU = 3;

    // The whats of a set: which of these, a parameter, and two numbers.
    private static final int WHAT_STRIDE = 4;
    private static final int WHAT_VALUE = 0;
    private static final int WHAT_THRU = 1;
    private static final int WHAT_MORE = 2;
    private static final int WHAT_PALETTE = 3;
    private static final int WHAT_HOME = 4;
    private static final int WHAT_RELEASE = 5;

    private final byte[] tapeBytes = new byte[TAPE_ROOM];
    private int tapeLength = 0;
    private int faultNumber = 0;
    private int faultPlace = NONE;
    private final Show show = new Show();
    private final Show[] past = new Show[PAST_TEXTS];
    private int pastCount = 0;
    private final Player player = new Player(show);
    private final Stage stage = new Stage(show, player);
    private final Words words = new Words();
    private final Statement statement = new Statement();
    private final Reader reader = new Reader(words, statement);
    private final Checker checker = new Checker(show, player);
    private final Editor editor = new Editor(show, player, stage);
    private final Saver saver = new Saver(show, words);

    public LightDesk() {
    }

    // ---- the tape, texts

    public int feed(int a, int b, int c, int d, int e) {
        if (tapeLength + FEED_BYTES > TAPE_ROOM) {
            return NONE;
        }
        putNumber(a);
        putNumber(b);
        putNumber(c);
        putNumber(d);
        putNumber(e);
        return tapeLength;
    }

    private void putNumber(int number) {
        for (int shift = 24; shift >= 0; shift -= 8) {
            tapeBytes[tapeLength] = (byte) (number >>> shift);
            tapeLength++;
        }
    }

    public int end(int n) {
        if (n < 0 || n > tapeLength) {
            return NONE;
        }
        tapeLength = n;
        return n;
    }

    public int enter() {
        faultNumber = 0;
        faultPlace = NONE;
        reader.open(tapeBytes, tapeLength);
        int done = 0;
        // Each statement takes a byte at least, so the tape's room bounds them.
        for (int step = 0; step < TAPE_ROOM; step++) {
            reader.scan();
            if (reader.isOver()) {
                break;
            }
            faultNumber = reader.readStatement() ? checker.firstFault(statement) : FAULT_TEXT;
            if (faultNumber != 0) {
                faultPlace = faultNumber == FAULT_TEXT ? reader.place() : checker.faultyPlace;
                break;
            }
            if (done == 0) {
                remember();
            }
            editor.perform(statement);
            done++;
        }
        tapeLength = 0;
        player.settle();
        return done;
    }

    private void remember() {
        if (pastCount == PAST_TEXTS) {
            Show oldest = past[0];
            for (int i = 1; i < PAST_TEXTS; i++) {
                past[i - 1] = past[i];
            }
            pastCount--;
            past[pastCount] = oldest;
        }
        // Few desks need all eight, so each is made when it is first needed.
        if (past[pastCount] == null) {
            past[pastCount] = new Show();
        }
        past[pastCount].copyFrom(show);
        pastCount++;
    }

    public int fault(int what) {
        if (what == 0) {
            return faultNumber;
        }
        return what == 1 ? faultPlace : NONE;
    }

    public int undo() {
        if (pastCount == 0 || past[pastCount - 1] == null) {
            return NONE;
        }
        pastCount--;
        show.copyFrom(past[pastCount]);
        player.settle();
        return 1;
    }

    public int save() {
        saver.write();
        if (saver.tooLong) {
            return NONE;
        }
        System.arraycopy(saver.draft, 0, tapeBytes, 0, saver.length);
        tapeLength = saver.length;
        return tapeLength;
    }

    public int tape(int i) {
        return i >= 0 && i < tapeLength ? tapeBytes[i] & 255 : NONE;
    }

    // ---- playing

    public int go() {
        return player.takeAndFollow(player.nextIndex(), false) ? player.current : NONE;
    }

    public int back() {
        int index = show.countNotAbove(player.current - 1) - 1;
        return player.takeAndFollow(index, true) ? player.current : NONE;
    }

    public int jump(int c) {
        return player.takeAndFollow(show.indexOf(c), false) ? player.current : NO_SUCH;
    }

    public boolean hold(boolean on) {
        boolean was = player.holding;
        player.holding = on;
        return was;
    }

    public int advance(int n) {
        if (n < 0 || n > LONGEST_TIME) {
            return NO_LEVEL;
        }
        for (int tenth = 0; tenth < n; tenth++) {
            player.tick();
            stage.moveRollers();
        }
        return player.clock;
    }

    public int fader(int s, int level) {
        if (!isIn(s, SUBS)) {
            return NO_SUCH;
        }
        if (!isLevel(level)) {
            return NO_LEVEL;
        }
        int was = stage.faders[s];
        stage.faders[s] = level;
        return was;
    }

    public int bump(int s, boolean on) {
        if (!isIn(s, SUBS)) {
            return NO_SUCH;
        }
        int was = stage.bumps[s] ? 1 : 0;
        stage.bumps[s] = on;
        return was;
    }

    public int grand(int level) {
        if (!isLevel(level)) {
            return NO_LEVEL;
        }
        int was = stage.grandLevel;
        stage.grandLevel = level;
        return was;
    }

    public boolean black(boolean on) {
        boolean was = stage.blackedOut;
        stage.blackedOut = on;
        return was;
    }

    public int run(int w, boolean on) {
        if (!isIn(w, WAVES)) {
            return NO_SUCH;
        }
        int was = stage.runs[w] ? 1 : 0;
        stage.runs[w] = on;
        return was;
    }

    // ---- what is seen

    public int slot(int k) {
        return isIn(k, SLOTS) ? stage.byteOf(k) : NO_SUCH;
    }

    public int level(int unit, int parameter) {
        if (!isCell(unit, parameter) || !show.has(unit, parameter)) {
            return NO_SUCH;
        }
        return stage.levelOf(unit, parameter);
    }

    public int shown(int unit) {
        return isIn(unit, UNITS) && show.isPatched(unit) ? stage.shownOf(unit) : NO_SUCH;
    }

    // ---- the show

    public int tracked(int c, int unit, int parameter) {
        if (c < 0 || c > GREATEST_CUE || !isCell(unit, parameter)) {
            return NO_SUCH;
        }
        return show.trackedLevel(show.countNotAbove(c), unit, parameter);
    }

    public int origin(int c, int unit, int parameter) {
        if (c < 0 || c > GREATEST_CUE || !isCell(unit, parameter)) {
            return NO_SUCH;
        }
        int index = show.originIndex(show.countNotAbove(c), cellOf(unit, parameter));
        return index < 0 ? 0 : show.cues[index].number;
    }

    public int change(int c, int unit, int parameter) {
        int index = show.indexOf(c);
        if (index < 0 || !isCell(unit, parameter)) {
            return NO_SUCH;
        }
        return show.cues[index].changes[cellOf(unit, parameter)];
    }

    public int held(int unit, int parameter) {
        return isCell(unit, parameter) ? show.programmer[cellOf(unit, parameter)] : NO_SUCH;
    }

    public int cue(int i, int what) {
        if (i < 0 || i >= show.cueCount) {
            return NONE;
        }
        Cue asked = show.cues[i];
        switch (what) {
            case 0:
                return asked.number;
            case 1:
            case 2:
            case 3:
            case 4:
            case 5:
                return asked.times[what - 1];
            case 6:
                return countValues(asked.changes);
            case 7:
                return asked.times[LINK];
            default:
                return NONE;
        }
    }

    public int unit(int unit, int what) {
        if (!isIn(unit, UNITS) || !show.isPatched(unit) || what < 0 || what > POSITION) {
            return NONE;
        }
        return what == POSITION ? stage.positions[unit] : show.patch[unit][what];
    }

    public int group(int g, int i) {
        return isIn(g, GROUPS) ? show.groups[g].unitAt(i) : NONE;
    }

    public int palette(int k, int parameter) {
        boolean there = isIn(k, PALETTES) && parameter >= 0 && parameter < PARAMETERS;
        return there ? show.palettes[k][parameter] : NONE;
    }

    public int sub(int s, int unit) {
        return isIn(s, SUBS) && isIn(unit, UNITS) ? show.subs[s][unit] : NONE;
    }

    public int masters(int s) {
        return isIn(s, SUBS) ? show.mastering[s] : NO_SUCH;
    }

    public int park(int k) {
        return isIn(k, SLOTS) ? show.parks[k] : NONE;
    }

    public int event(int n, int what) {
        return isIn(n, EVENTS) && what >= 0 && what < EVENT_WIDTH ? show.events[n][what] : NONE;
    }

    public int wave(int w, int what) {
        if (!isIn(w, WAVES) || what < 0) {
            return NONE;
        }
        return what < WAVE_WIDTH ? show.waves[w][what] : show.waveRows[w].unitAt(what - WAVE_WIDTH);
    }

    public int state(int what) {
        switch (what) {
            case 0:
                return player.clock;
            case 1:
                return player.fadeClock;
            case 2:
                return player.current;
            case 3:
                return show.cueCount;
            case 4:
                return show.countPatched();
            case 5:
                return pastCount;
            case 6:
                return show.blindCue;
            case 7:
                return countValues(show.programmer);
            case 8:
                return player.countFading();
            case 9:
                return tapeLength;
            default:
                return NONE;
        }
    }

    private static boolean isIn(int number, int greatest) {
        return number >= 1 && number <= greatest;
    }

    private static boolean isLevel(int number) {
        return number >= 0 && number <= FULL;
    }

    private static boolean isCell(int unit, int parameter) {
        return isIn(unit, UNITS) && parameter >= 0 && parameter < PARAMETERS;
    }

    private static int cellOf(int unit, int parameter) {
        return (unit - 1) * PARAMETERS + parameter;
    }

    private static int countValues(int[] values) {
        int count = 0;
        for (int value : values) {
            if (value != NONE) {
                count++;
            }
        }
        return count;
    }

    /** A row of units, each of them once. */
    private static final class Row {
        private final int[] units = new int[UNITS];
        private int count = 0;

        int unitAt(int i) {
            return i >= 0 && i < count ? units[i] : NONE;
        }

        int placeOf(int unit) {
            for (int i = 0; i < count; i++) {
                if (units[i] == unit) {
                    return i;
                }
            }
            return NONE;
        }

        void add(int unit) {
            if (count < UNITS && placeOf(unit) < 0) {
                units[count] = unit;
                count++;
            }
        }

        void remove(int unit) {
            int place = placeOf(unit);
            if (place < 0) {
                return;
            }
            count--;
            for (int i = place; i < count; i++) {
                units[i] = units[i + 1];
            }
        }

        void clear() {
            count = 0;
        }

        void copyFrom(Row other) {
            System.arraycopy(other.units, 0, units, 0, other.count);
            count = other.count;
        }
    }

    private static final class Cue {
        private int number = 0;
        private final int[] times = new int[TIMES];
        private final int[] changes = new int[CELLS];

        void begin(int newNumber) {
            number = newNumber;
            Arrays.fill(times, 0);
            times[FOLLOW] = NONE;
            times[LINK] = NONE;
            Arrays.fill(changes, NONE);
        }

        void copyFrom(Cue other) {
            number = other.number;
            System.arraycopy(other.times, 0, times, 0, TIMES);
            System.arraycopy(other.changes, 0, changes, 0, CELLS);
        }
    }

    /** All that texts edit and that undo() brings back. */
    private static final class Show {
        private final int[][] patch = new int[UNITS + 1][PATCH_WIDTH];
        private final Row[] groups = new Row[GROUPS + 1];
        private final int[][] palettes = new int[PALETTES + 1][PARAMETERS];
        private final int[][] subs = new int[SUBS + 1][UNITS + 1];
        private final int[] mastering = new int[SUBS + 1];
        private final int[][] waves = new int[WAVES + 1][WAVE_WIDTH];
        private final Row[] waveRows = new Row[WAVES + 1];
        /** By their numbers; those from cueCount on are kept to be used for new ones. */
        private final Cue[] cues = new Cue[CUES];
        private int cueCount = 0;
        private final int[] programmer = new int[CELLS];
        private int blindCue = NONE;
        private final int[] parks = new int[SLOTS + 1];
        private final int[][] events = new int[EVENTS + 1][EVENT_WIDTH];

        Show() {
            fillRows(patch, NONE);
            fillRows(palettes, NONE);
            fillRows(subs, NONE);
            fillRows(waves, NONE);
            fillRows(events, NONE);
            Arrays.fill(programmer, NONE);
            Arrays.fill(parks, NONE);
            for (int i = 0; i < groups.length; i++) {
                groups[i] = new Row();
            }
            for (int i = 0; i < waveRows.length; i++) {
                waveRows[i] = new Row();
            }
            for (int i = 0; i < CUES; i++) {
                cues[i] = new Cue();
            }
        }

        private static void fillRows(int[][] rows, int value) {
            for (int[] row : rows) {
                Arrays.fill(row, value);
            }
        }

        private static void copyRows(int[][] source, int[][] target) {
            for (int i = 0; i < source.length && i < target.length; i++) {
                System.arraycopy(source[i], 0, target[i], 0, Math.min(source[i].length, target[i].length));
            }
        }

        void copyFrom(Show other) {
            copyRows(other.patch, patch);
            copyRows(other.palettes, palettes);
            copyRows(other.subs, subs);
            copyRows(other.waves, waves);
            copyRows(other.events, events);
            System.arraycopy(other.mastering, 0, mastering, 0, mastering.length);
            System.arraycopy(other.programmer, 0, programmer, 0, CELLS);
            System.arraycopy(other.parks, 0, parks, 0, parks.length);
            for (int i = 0; i < groups.length; i++) {
                groups[i].copyFrom(other.groups[i]);
            }
            for (int i = 0; i < waveRows.length; i++) {
                waveRows[i].copyFrom(other.waveRows[i]);
            }
            for (int i = 0; i < other.cueCount; i++) {
                cues[i].copyFrom(other.cues[i]);
            }
            cueCount = other.cueCount;
            blindCue = other.blindCue;
        }

        boolean isPatched(int unit) {
            return patch[unit][KIND] != NONE;
        }

        boolean has(int unit, int parameter) {
            int kind = patch[unit][KIND];
            return kind >= 0 && kind < KINDS && (HAS[kind] >> parameter & 1) == 1;
        }

        int countPatched() {
            int count = 0;
            for (int unit = 1; unit <= UNITS; unit++) {
                if (isPatched(unit)) {
                    count++;
                }
            }
            return count;
        }

        /** The unit of which that is a slot, 0 if there is none. */
        int ownerOf(int slotNumber) {
            for (int unit = 1; unit <= UNITS; unit++) {
                if (isPatched(unit)) {
                    int offset = slotNumber - patch[unit][FIRST_SLOT];
                    if (offset >= 0 && offset < SLOTS_OF_KIND[patch[unit][KIND]]) {
                        return unit;
                    }
                }
            }
            return 0;
        }

        int countNotAbove(int number) {
            int count = 0;
            while (count < cueCount && cues[count].number <= number) {
                count++;
            }
            return count;
        }

        int indexOf(int number) {
            int index = countNotAbove(number) - 1;
            return index >= 0 && cues[index].number == number ? index : NONE;
        }

        /** The index of the cue of that number, which comes if it is not there; NONE without room. */
        int bringCue(int number) {
            int place = countNotAbove(number);
            if (place > 0 && cues[place - 1].number == number) {
                return place - 1;
            }
            if (cueCount >= CUES) {
                return NONE;
            }
            Cue fresh = cues[cueCount];
            for (int i = cueCount; i > place; i--) {
                cues[i] = cues[i - 1];
            }
            cues[place] = fresh;
            cueCount++;
            fresh.begin(number);
            return place;
        }

        void removeCue(int index) {
            Cue gone = cues[index];
            for (int i = index + 1; i < cueCount; i++) {
                cues[i - 1] = cues[i];
            }
            cueCount--;
            cues[cueCount] = gone;
        }

        /** The last of the first so many cues that has a change there; NONE without one. */
        int originIndex(int count, int cell) {
            for (int i = count - 1; i >= 0; i--) {
                if (cues[i].changes[cell] != NONE) {
                    return i;
                }
            }
            return NONE;
        }

        int trackedValue(int count, int cell) {
            int index = originIndex(count, cell);
            return index < 0 ? NONE : cues[index].changes[cell];
        }

        int trackedLevel(int count, int unit, int parameter) {
            // No cue can have a change of what the unit has not, so the walk is spared.
            if (!has(unit, parameter)) {
                return HOME[parameter];
            }
            return levelFor(trackedValue(count, cellOf(unit, parameter)), parameter);
        }

        int levelFor(int value, int parameter) {
            int found = value;
            if (value > FROM && value <= FROM + PALETTES) {
                found = palettes[value - FROM][parameter];
            }
            return found == NONE ? HOME[parameter] : found;
        }
    }

    /** The letters of all words. */
    private static final class Words {
        private final char[] letters;
        private final int[] starts = new int[WORDS + 1];

        Words() {
            StringBuilder all = new StringBuilder();
            all.append(NAMES);
            all.append(DETAILS);
            all.append(VERBS);
            all.append(JOINTS);
            letters = all.toString().toCharArray();
            int word = 0;
            for (int i = 0; i < letters.length; i++) {
                if (letters[i] == ' ' && word < WORDS) {
                    word++;
                    starts[word] = i + 1;
                }
            }
        }

        int lengthOf(int word) {
            return starts[word + 1] - starts[word] - 1;
        }

        int letterOf(int word, int i) {
            return letters[starts[word] + i];
        }

        int find(byte[] bytes, int from, int length) {
            for (int word = 0; word < WORDS; word++) {
                if (lengthOf(word) == length && isAt(word, bytes, from)) {
                    return word;
                }
            }
            return UNREADABLE;
        }

        private boolean isAt(int word, byte[] bytes, int from) {
            int length = lengthOf(word);
            for (int i = 0; i < length; i++) {
                if (bytes[from + i] != letterOf(word, i)) {
                    return false;
                }
            }
            return true;
        }
    }

    /** What one statement tells, and what has to be looked at ahead of doing it. */
    private static final class Statement {
        private int verb = NONE;
        private int option = NONE;
        private final int[] told = new int[TOLD];
        private final int[] roles = new int[MOST_TOKENS * 2];
        private final int[] numbers = new int[MOST_TOKENS * 2];
        private final int[] places = new int[MOST_TOKENS * 2];
        private int itemCount = 0;
        private final int[] terms = new int[MOST_TOKENS * TERM_STRIDE];
        private int termCount = 0;
        private final int[] whats = new int[MOST_TOKENS * WHAT_STRIDE];
        private int whatCount = 0;
        /** The set's units, known once the statement has been checked. */
        private final Row units = new Row();

        void begin() {
            verb = NONE;
            option = NONE;
            Arrays.fill(told, NOT_TOLD);
            itemCount = 0;
            termCount = 0;
            whatCount = 0;
            units.clear();
        }

        boolean isTold(int place) {
            return told[place] != NOT_TOLD;
        }

        int toldOr(int place, int otherwise) {
            return isTold(place) ? told[place] : otherwise;
        }

        void addItem(int role, int number, int place) {
            if (itemCount < roles.length) {
                roles[itemCount] = role;
                numbers[itemCount] = number;
                places[itemCount] = place;
                itemCount++;
            }
        }

        void addTerm(int sign, int type, int a, int b) {
            if (termCount < MOST_TOKENS) {
                int base = termCount * TERM_STRIDE;
                terms[base] = sign;
                terms[base + 1] = type;
                terms[base + 2] = a;
                terms[base + 3] = b;
                termCount++;
            }
        }

        void addWhat(int type, int parameter, int a, int b) {
            if (whatCount < MOST_TOKENS) {
                int base = whatCount * WHAT_STRIDE;
                whats[base] = type;
                whats[base + 1] = parameter;
                whats[base + 2] = a;
                whats[base + 3] = b;
                whatCount++;
            }
        }
    }

    /** Reads a text, statement by statement, into what each one tells. */
    private static final class Reader {
        private final Words words;
        private final Statement statement;
        private byte[] bytes = new byte[0];
        private int length = 0;
        private int position = 0;
        // The tokens of one statement; the last one closes it, or is where it can't go on.
        private final int[] codes = new int[MOST_TOKENS + 1];
        private final int[] numbers = new int[MOST_TOKENS + 1];
        private final int[] places = new int[MOST_TOKENS + 1];
        private int count = 0;
        private int at = 0;

        Reader(Words words, Statement statement) {
            this.words = words;
            this.statement = statement;
        }

        void open(byte[] newBytes, int newLength) {
            bytes = newBytes;
            length = newLength;
            position = 0;
        }

        void scan() {
            count = 0;
            at = 0;
            boolean goesOn = true;
            for (int i = 0; i < MOST_TOKENS && goesOn; i++) {
                skipBlanks();
                int code = scanToken();
                goesOn = code != SEMICOLON && code != UNREADABLE && code != OVER;
            }
            if (goesOn) {
                skipBlanks();
                addToken(UNREADABLE, 0, 0);
            }
        }

        boolean isOver() {
            return codes[0] == OVER;
        }

        int place() {
            return at < count ? places[at] : length;
        }

        private void skipBlanks() {
            while (position < length && (bytes[position] == ' ' || bytes[position] == '\n')) {
                position++;
            }
        }

        private int scanToken() {
            if (position >= length) {
                return addToken(OVER, 0, 0);
            }
            int first = bytes[position];
            if (first >= 'a' && first <= 'z') {
                int letters = runLength('a', 'z');
                int word = letters > LONGEST_WORD ? UNREADABLE : words.find(bytes, position, letters);
                return addToken(word, 0, letters);
            }
            if (first >= '0' && first <= '9') {
                int digits = runLength('0', '9');
                if (digits > LONGEST_NUMBER) {
                    return addToken(UNREADABLE, 0, digits);
                }
                return addToken(NUMBER, numberAt(digits), digits);
            }
            return addToken(codeOfSign(first), 0, 1);
        }

        private int runLength(int least, int greatest) {
            int reached = position;
            while (reached < length && bytes[reached] >= least && bytes[reached] <= greatest) {
                reached++;
            }
            return reached - position;
        }

        private int numberAt(int digits) {
            int number = 0;
            for (int i = 0; i < digits; i++) {
                number = number * 10 + bytes[position + i] - '0';
            }
            return number;
        }

        private static int codeOfSign(int sign) {
            switch (sign) {
                case ';':
                    return SEMICOLON;
                case '+':
                    return PLUS;
                case '-':
                    return MINUS;
                case '=':
                    return EQUALS;
                case '@':
                    return AT_SIGN;
                default:
                    return UNREADABLE;
            }
        }

        private int addToken(int code, int number, int width) {
            codes[count] = code;
            numbers[count] = number;
            places[count] = position;
            count++;
            position += width;
            return code;
        }

        private int codeAhead(int distance) {
            return at + distance < count ? codes[at + distance] : UNREADABLE;
        }

        private boolean pass(int code) {
            if (codeAhead(0) != code) {
                return false;
            }
            at++;
            return true;
        }

        private boolean passNumber(int role) {
            if (codeAhead(0) != NUMBER) {
                return false;
            }
            statement.addItem(role, numbers[at], places[at]);
            at++;
            return true;
        }

        private boolean tellNumber(int place, int role) {
            if (!passNumber(role)) {
                return false;
            }
            statement.told[place] = latestNumber();
            return true;
        }

        /** The number that was passed last. */
        private int latestNumber() {
            return at > 0 ? numbers[at - 1] : 0;
        }

        private boolean tellWord(int place, int firstWord, int wordCount) {
            int code = codeAhead(0) - firstWord;
            if (code < 0 || code >= wordCount) {
                return false;
            }
            statement.told[place] = code;
            at++;
            return true;
        }

        private boolean passOption(int word) {
            if (!pass(word)) {
                return false;
            }
            statement.option = word;
            return true;
        }

        /** Whether it could be read; if not, place() is where it can't go on. */
        boolean readStatement() {
            statement.begin();
            int verb = codeAhead(0);
            boolean isGroupMade = verb == WORD_GROUP && codeAhead(1) == NUMBER && codeAhead(2) == EQUALS;
            if (verb == NUMBER || verb == WORD_ALL || verb == WORD_GROUP && !isGroupMade) {
                statement.verb = SET_VALUES;
                return readSet() && readWhats() && pass(SEMICOLON);
            }
            if (verb < WORD_PATCH || verb > WORD_EVENT) {
                return false;
            }
            statement.verb = verb;
            at++;
            boolean read = verb <= WORD_CUE ? readThing(verb) : readDeed(verb);
            return read && pass(SEMICOLON);
        }

        private boolean readThing(int verb) {
            switch (verb) {
                case WORD_PATCH:
                    return readPatch();
                case WORD_UNPATCH:
                    return readSet();
                case WORD_GROUP:
                    return tellNumber(SUBJECT, ROLE_GROUP) && pass(EQUALS) && readSet();
                case WORD_PALETTE:
                    return tellNumber(SUBJECT, ROLE_PALETTE) && pass(EQUALS) && readPalette();
                case WORD_SUB:
                    return tellNumber(SUBJECT, ROLE_SUB) && readSub();
                case WORD_WAVE:
                    return tellNumber(SUBJECT, ROLE_WAVE) && pass(EQUALS) && readWave();
                case WORD_CUE:
                    return tellNumber(SUBJECT, ROLE_CUE_TO_COME) && readTimes();
                default:
                    return false;
            }
        }

        private boolean readDeed(int verb) {
            int wordPlace = at > 0 ? places[at - 1] : 0;
            if (verb == WORD_RECORD || verb == WORD_UPDATE || verb == WORD_SNEAK) {
                statement.addItem(ROLE_HELD_VALUES, 0, wordPlace);
            }
            switch (verb) {
                case WORD_RECORD:
                    return readRecord();
                case WORD_UPDATE:
                    statement.addItem(ROLE_CUE_TO_UPDATE, 0, wordPlace);
                    return true;
                case WORD_DELETE:
                case WORD_BLOCK:
                case WORD_UNBLOCK:
                case WORD_BLIND:
                    return tellNumber(SUBJECT, ROLE_CUE_THERE);
                case WORD_COPY:
                    return tellNumber(SUBJECT, ROLE_CUE_THERE) && pass(WORD_TO) && tellNumber(OBJECT, ROLE_CUE_TO_COPY_TO);
                case WORD_LIVE:
                case WORD_CLEAR:
                    return true;
                case WORD_SNEAK:
                    return tellNumber(SUBJECT, ROLE_TIME);
                case WORD_PARK:
                    return tellNumber(SUBJECT, ROLE_SLOT) && pass(AT_SIGN) && tellNumber(OBJECT, ROLE_BYTE);
                case WORD_UNPARK:
                    return passOption(WORD_ALL) || tellNumber(SUBJECT, ROLE_SLOT);
                case WORD_EVENT:
                    return tellNumber(SUBJECT, ROLE_EVENT) && pass(EQUALS) && readEvent();
                default:
                    return false;
            }
        }

        private boolean readPatch() {
            boolean begun = tellNumber(SUBJECT, ROLE_UNIT_TO_PATCH) && tellWord(EXTRA, 0, KINDS)
                && pass(WORD_AT) && tellNumber(OBJECT, ROLE_FIRST_SLOT);
            if (!begun) {
                return false;
            }
            for (int i = 0; i < MOST_TOKENS; i++) {
                int word = codeAhead(0);
                if (word < WORD_LIMIT || word > WORD_SWAP) {
                    return true;
                }
                int place = word - WORD_LIMIT;
                if (statement.isTold(place)) {
                    return false;
                }
                at++;
                if (word >= WORD_INVERT) {
                    statement.told[place] = 1;
                } else if (!tellNumber(place, word == WORD_LIMIT ? ROLE_LEVEL : ROLE_CURVE)) {
                    return false;
                }
            }
            return true;
        }

        private boolean readPalette() {
            if (passOption(WORD_NONE)) {
                return true;
            }
            for (int i = 0; i < MOST_TOKENS; i++) {
                int parameter = codeAhead(0) - WORD_PARAMETER;
                if (parameter < 0 || parameter >= PARAMETERS) {
                    return i > 0;
                }
                if (statement.isTold(parameter)) {
                    return false;
                }
                at++;
                if (!tellNumber(parameter, ROLE_LEVEL)) {
                    return false;
                }
            }
            return true;
        }

        private boolean readSub() {
            if (passOption(WORD_WITH)) {
                return readSet() && pass(AT_SIGN) && tellNumber(OBJECT, ROLE_LEVEL);
            }
            return passOption(WORD_NONE) || passOption(WORD_ADDS) || passOption(WORD_MASTERS);
        }

        private boolean readWave() {
            if (passOption(WORD_NONE)) {
                return true;
            }
            return tellWord(SHAPE, WORD_SHAPE, WORD_UP - WORD_SHAPE)
                && tellWord(MOVED, WORD_PARAMETER, PARAMETERS)
                && pass(WORD_SIZE) && tellNumber(SIZE, ROLE_LEVEL)
                && pass(WORD_RATE) && tellNumber(RATE, ROLE_LEVEL)
                && pass(WORD_SPREAD) && tellNumber(SPREAD, ROLE_LEVEL)
                && pass(WORD_ON) && readSet();
        }

        private boolean readRecord() {
            if (!tellNumber(SUBJECT, ROLE_CUE_TO_COME)) {
                return false;
            }
            passOption(WORD_ONLY);
            return readTimes();
        }

        private boolean readEvent() {
            if (passOption(WORD_NONE)) {
                return true;
            }
            return tellNumber(OBJECT, ROLE_ANY) && pass(WORD_CUE) && tellNumber(EXTRA, ROLE_CUE_NUMBER);
        }

        private boolean readTimes() {
            for (int i = 0; i < MOST_TOKENS; i++) {
                int word = codeAhead(0);
                if (word < WORD_UP || word > WORD_LOOSE) {
                    return true;
                }
                // stay tells of FOLLOW, loose of LINK.
                int place = word < WORD_STAY ? word - WORD_UP : word - WORD_STAY + FOLLOW;
                if (statement.isTold(place)) {
                    return false;
                }
                at++;
                if (word >= WORD_STAY) {
                    statement.told[place] = NONE;
                } else if (!tellNumber(place, word == WORD_LINK ? ROLE_CUE_NUMBER : ROLE_TIME)) {
                    return false;
                }
            }
            return true;
        }

        private boolean readSet() {
            int setPlace = place();
            int sign = PLUS;
            for (int i = 0; i < MOST_TOKENS; i++) {
                if (!readTerm(sign)) {
                    return false;
                }
                sign = codeAhead(0);
                if (sign != PLUS && sign != MINUS) {
                    statement.addItem(ROLE_UNITS_OF_SET, 0, setPlace);
                    return true;
                }
                at++;
            }
            return false;
        }

        private boolean readTerm(int sign) {
            if (pass(WORD_ALL)) {
                statement.addTerm(sign, TERM_ALL, 0, 0);
                return true;
            }
            if (pass(WORD_GROUP)) {
                boolean read = passNumber(ROLE_GROUP_WITH_UNITS);
                statement.addTerm(sign, TERM_GROUP, latestNumber(), 0);
                return read;
            }
            boolean isThru = codeAhead(1) == WORD_THRU;
            if (!passNumber(isThru ? ROLE_UNIT : ROLE_UNIT_ALONE)) {
                return false;
            }
            int first = latestNumber();
            if (!isThru) {
                statement.addTerm(sign, TERM_UNIT, first, first);
                return true;
            }
            at++;
            boolean read = passNumber(ROLE_UNIT);
            statement.addTerm(sign, TERM_THRU, first, latestNumber());
            return read;
        }

        private boolean readWhats() {
            for (int i = 0; i < MOST_TOKENS; i++) {
                int code = codeAhead(0);
                int parameter = code == AT_SIGN ? DIM : code - WORD_PARAMETER;
                if (parameter >= 0 && parameter < PARAMETERS) {
                    at++;
                    if (!readParameterWhat(parameter)) {
                        return false;
                    }
                } else if (pass(WORD_PALETTE)) {
                    if (!passNumber(ROLE_PALETTE)) {
                        return false;
                    }
                    statement.addWhat(WHAT_PALETTE, 0, latestNumber(), 0);
                } else if (pass(WORD_HOME)) {
                    statement.addWhat(WHAT_HOME, 0, 0, 0);
                } else if (pass(WORD_RELEASE)) {
                    statement.addWhat(WHAT_RELEASE, 0, 0, 0);
                } else {
                    return i > 0;
                }
            }
            return false;
        }

        private boolean readParameterWhat(int parameter) {
            if (pass(WORD_FULL)) {
                statement.addWhat(WHAT_VALUE, parameter, FULL, 0);
                return true;
            }
            if (pass(WORD_FROM)) {
                boolean read = passNumber(ROLE_PALETTE);
                statement.addWhat(WHAT_VALUE, parameter, FROM + latestNumber(), 0);
                return read;
            }
            int sign = codeAhead(0);
            if (sign == PLUS || sign == MINUS) {
                at++;
                boolean read = passNumber(ROLE_LEVEL);
                statement.addWhat(WHAT_MORE, parameter, sign == PLUS ? latestNumber() : -latestNumber(), 0);
                return read;
            }
            if (!passNumber(ROLE_LEVEL)) {
                return false;
            }
            int first = latestNumber();
            if (!pass(WORD_THRU)) {
                statement.addWhat(WHAT_VALUE, parameter, first, 0);
                return true;
            }
            boolean read = passNumber(ROLE_LEVEL);
            statement.addWhat(WHAT_THRU, parameter, first, latestNumber());
            return read;
        }
    }

    /** Looks, from the left, at all that can be wrong with a statement that could be read. */
    private static final class Checker {
        private final Show show;
        private final Player player;
        private int faultyPlace = NONE;

        Checker(Show show, Player player) {
            this.show = show;
            this.player = player;
        }

        /** 0 without a fault; the statement's set has its units then. */
        int firstFault(Statement statement) {
            for (int i = 0; i < statement.itemCount; i++) {
                int found = faultOf(statement, statement.roles[i], statement.numbers[i]);
                if (found != 0) {
                    faultyPlace = statement.places[i];
                    return found;
                }
            }
            return 0;
        }

        private int faultOf(Statement statement, int role, int number) {
            if (role < 0 || role >= ROLES || number < LEAST[role] || number > GREATEST[role]) {
                return FAULT_NUMBER;
            }
            switch (role) {
                case ROLE_UNIT_ALONE:
                    return show.isPatched(number) ? 0 : FAULT_NOTHING_THERE;
                case ROLE_UNIT_TO_PATCH:
                    return show.isPatched(number) ? FAULT_NOT_NOW : 0;
                case ROLE_GROUP_WITH_UNITS:
                    return show.groups[number].count > 0 ? 0 : FAULT_NOTHING_THERE;
                case ROLE_FIRST_SLOT:
                    return areSlotsFree(number, statement.told[EXTRA]) ? 0 : FAULT_SLOT;
                case ROLE_CUE_TO_COME:
                    return show.indexOf(number) >= 0 ? 0 : faultOfNewCue();
                case ROLE_CUE_TO_COPY_TO:
                    return show.indexOf(number) >= 0 ? FAULT_NOT_NOW : faultOfNewCue();
                case ROLE_CUE_THERE:
                    return show.indexOf(number) >= 0 ? 0 : FAULT_NOTHING_THERE;
                case ROLE_UNITS_OF_SET:
                    gather(statement);
                    return statement.units.count > 0 ? 0 : FAULT_NOTHING_TO_USE;
                case ROLE_HELD_VALUES:
                    return countValues(show.programmer) > 0 ? 0 : FAULT_NOTHING_TO_USE;
                case ROLE_CUE_TO_UPDATE:
                    return show.countNotAbove(player.current) > 0 ? 0 : FAULT_NOT_NOW;
                default:
                    return 0;
            }
        }

        private int faultOfNewCue() {
            return show.cueCount < CUES ? 0 : FAULT_TOO_MANY_CUES;
        }

        private boolean areSlotsFree(int first, int kind) {
            if (kind < 0 || kind >= KINDS || first + SLOTS_OF_KIND[kind] - 1 > SLOTS) {
                return false;
            }
            for (int i = 0; i < SLOTS_OF_KIND[kind]; i++) {
                if (show.ownerOf(first + i) != 0) {
                    return false;
                }
            }
            return true;
        }

        private void gather(Statement statement) {
            Row units = statement.units;
            int[] terms = statement.terms;
            units.clear();
            for (int i = 0; i < statement.termCount; i++) {
                int base = i * TERM_STRIDE;
                boolean puts = terms[base] == PLUS;
                int a = terms[base + 2];
                switch (terms[base + 1]) {
                    case TERM_ALL:
                        gatherThru(units, puts, 1, UNITS);
                        break;
                    case TERM_GROUP:
                        Row row = show.groups[a];
                        for (int k = 0; k < row.count; k++) {
                            gatherUnit(units, puts, row.units[k]);
                        }
                        break;
                    case TERM_UNIT:
                        gatherUnit(units, puts, a);
                        break;
                    default:
                        gatherThru(units, puts, a, terms[base + 3]);
                        break;
                }
            }
        }

        private void gatherThru(Row units, boolean puts, int first, int last) {
            int step = last < first ? -1 : 1;
            int distance = Math.abs(last - first);
            for (int i = 0; i <= distance; i++) {
                int unit = first + i * step;
                if (show.isPatched(unit)) {
                    gatherUnit(units, puts, unit);
                }
            }
        }

        private static void gatherUnit(Row units, boolean puts, int unit) {
            if (puts) {
                units.add(unit);
            } else {
                units.remove(unit);
            }
        }
    }

    /** Does statements that have been checked. */
    private static final class Editor {
        private final Show show;
        private final Player player;
        private final Stage stage;

        Editor(Show show, Player player, Stage stage) {
            this.show = show;
            this.player = player;
            this.stage = stage;
        }

        void perform(Statement statement) {
            int subject = statement.told[SUBJECT];
            switch (statement.verb) {
                case SET_VALUES:
                    setValues(statement);
                    break;
                case WORD_PATCH:
                    patchUnit(statement, subject);
                    break;
                case WORD_UNPATCH:
                    for (int i = 0; i < statement.units.count; i++) {
                        unpatchUnit(statement.units.units[i]);
                    }
                    break;
                case WORD_GROUP:
                    show.groups[subject].copyFrom(statement.units);
                    break;
                case WORD_PALETTE:
                    makePalette(statement, show.palettes[subject]);
                    break;
                case WORD_SUB:
                    makeSub(statement, subject);
                    break;
                case WORD_WAVE:
                    makeWave(statement, subject);
                    break;
                case WORD_PARK:
                    show.parks[subject] = statement.told[OBJECT];
                    break;
                case WORD_UNPARK:
                    unparkSlots(statement, subject);
                    break;
                case WORD_EVENT:
                    makeEvent(statement, show.events[subject]);
                    break;
                default:
                    performOnCues(statement, subject);
                    break;
            }
        }

        private void performOnCues(Statement statement, int subject) {
            switch (statement.verb) {
                case WORD_CUE:
                    bringCue(statement, subject);
                    break;
                case WORD_RECORD:
                    recordCue(statement, subject);
                    break;
                case WORD_UPDATE:
                    updateCues();
                    break;
                case WORD_DELETE:
                    deleteCue(subject);
                    break;
                case WORD_COPY:
                    copyCue(subject, statement.told[OBJECT]);
                    break;
                case WORD_BLOCK:
                    blockCue(show.indexOf(subject));
                    break;
                case WORD_UNBLOCK:
                    unblockCue(show.indexOf(subject));
                    break;
                case WORD_BLIND:
                    show.blindCue = subject;
                    break;
                case WORD_LIVE:
                    show.blindCue = NONE;
                    break;
                case WORD_CLEAR:
                    Arrays.fill(show.programmer, NONE);
                    break;
                case WORD_SNEAK:
                    sneakAway(subject);
                    break;
                default:
                    break;
            }
        }

        private void patchUnit(Statement statement, int unit) {
            int[] row = show.patch[unit];
            row[KIND] = statement.told[EXTRA];
            row[FIRST_SLOT] = statement.told[OBJECT];
            row[LIMIT] = statement.toldOr(0, FULL);
            row[CURVE] = statement.toldOr(1, 0);
            row[INVERTED] = statement.toldOr(2, 0);
            row[SWAPPED] = statement.toldOr(3, 0);
            stage.positions[unit] = 0;
        }

        private void unpatchUnit(int unit) {
            Arrays.fill(show.patch[unit], NONE);
            for (int g = 1; g <= GROUPS; g++) {
                show.groups[g].remove(unit);
            }
            for (int s = 1; s <= SUBS; s++) {
                show.subs[s][unit] = NONE;
            }
            for (int w = 1; w <= WAVES; w++) {
                show.waveRows[w].remove(unit);
                if (show.waveRows[w].count == 0) {
                    Arrays.fill(show.waves[w], NONE);
                }
            }
            for (int parameter = 0; parameter < PARAMETERS; parameter++) {
                int cell = cellOf(unit, parameter);
                show.programmer[cell] = NONE;
                for (int i = 0; i < show.cueCount; i++) {
                    show.cues[i].changes[cell] = NONE;
                }
            }
        }

        private void makePalette(Statement statement, int[] levels) {
            for (int parameter = 0; parameter < PARAMETERS; parameter++) {
                levels[parameter] = statement.toldOr(parameter, NONE);
            }
        }

        private void makeSub(Statement statement, int s) {
            switch (statement.option) {
                case WORD_NONE:
                    Arrays.fill(show.subs[s], NONE);
                    break;
                case WORD_WITH:
                    for (int i = 0; i < statement.units.count; i++) {
                        show.subs[s][statement.units.units[i]] = statement.told[OBJECT];
                    }
                    break;
                default:
                    show.mastering[s] = statement.option == WORD_MASTERS ? 1 : 0;
                    break;
            }
        }

        private void makeWave(Statement statement, int w) {
            for (int i = 0; i < WAVE_WIDTH; i++) {
                show.waves[w][i] = statement.toldOr(i, NONE);
            }
            show.waveRows[w].copyFrom(statement.units);
        }

        private void makeEvent(Statement statement, int[] row) {
            row[TIME] = statement.toldOr(OBJECT, NONE);
            row[TARGET] = statement.toldOr(EXTRA, NONE);
        }

        private void unparkSlots(Statement statement, int subject) {
            if (statement.option == WORD_ALL) {
                Arrays.fill(show.parks, NONE);
            } else {
                show.parks[subject] = NONE;
            }
        }

        private void setValues(Statement statement) {
            int blindIndex = show.blindCue == NONE ? NONE : show.indexOf(show.blindCue);
            int[] target = blindIndex < 0 ? show.programmer : show.cues[blindIndex].changes;
            Row units = statement.units;
            for (int i = 0; i < statement.whatCount; i++) {
                int base = i * WHAT_STRIDE;
                for (int k = 0; k < units.count; k++) {
                    if (statement.whats[base] <= WHAT_MORE) {
                        setOne(statement, base, k, target, blindIndex);
                    } else {
                        setAll(statement, base, units.units[k], target);
                    }
                }
            }
        }

        private void setOne(Statement statement, int base, int k, int[] target, int blindIndex) {
            int unit = statement.units.units[k];
            int parameter = statement.whats[base + 1];
            if (!show.has(unit, parameter)) {
                return;
            }
            int a = statement.whats[base + 2];
            int cell = cellOf(unit, parameter);
            switch (statement.whats[base]) {
                case WHAT_VALUE:
                    target[cell] = a;
                    break;
                case WHAT_THRU:
                    int steps = statement.units.count - 1;
                    target[cell] = steps < 1 ? a : a + (statement.whats[base + 3] - a) * k / steps;
                    break;
                default:
                    int had = levelToChange(unit, parameter, blindIndex);
                    target[cell] = Math.max(0, Math.min(FULL, had + a));
                    break;
            }
        }

        private int levelToChange(int unit, int parameter, int blindIndex) {
            if (blindIndex >= 0) {
                return show.trackedLevel(blindIndex + 1, unit, parameter);
            }
            int cell = cellOf(unit, parameter);
            int value = show.programmer[cell];
            return value == NONE ? player.cueLevel(cell) : show.levelFor(value, parameter);
        }

        private void setAll(Statement statement, int base, int unit, int[] target) {
            int type = statement.whats[base];
            int number = statement.whats[base + 2];
            for (int parameter = 0; parameter < PARAMETERS; parameter++) {
                if (show.has(unit, parameter)) {
                    int cell = cellOf(unit, parameter);
                    if (type == WHAT_HOME) {
                        target[cell] = HOME[parameter];
                    } else if (type == WHAT_RELEASE) {
                        target[cell] = NONE;
                    } else if (show.palettes[number][parameter] != NONE) {
                        target[cell] = FROM + number;
                    }
                }
            }
        }

        private int bringCue(Statement statement, int number) {
            int index = show.bringCue(number);
            if (index >= 0) {
                int[] times = show.cues[index].times;
                for (int i = 0; i < TIMES; i++) {
                    times[i] = statement.toldOr(i, times[i]);
                }
            }
            return index;
        }

        private void recordCue(Statement statement, int number) {
            int index = bringCue(statement, number);
            if (index < 0) {
                return;
            }
            boolean keepsNext = statement.option == WORD_ONLY && index + 1 < show.cueCount;
            for (int cell = 0; cell < CELLS; cell++) {
                if (show.programmer[cell] != NONE) {
                    if (keepsNext) {
                        keepTracked(index + 1, cell);
                    }
                    show.cues[index].changes[cell] = show.programmer[cell];
                }
            }
        }

        private void keepTracked(int index, int cell) {
            int[] changes = show.cues[index].changes;
            if (changes[cell] == NONE) {
                int value = show.trackedValue(index, cell);
                changes[cell] = value == NONE ? HOME[cell % PARAMETERS] : value;
            }
        }

        private void updateCues() {
            int count = show.countNotAbove(player.current);
            for (int cell = 0; cell < CELLS; cell++) {
                if (show.programmer[cell] != NONE && count > 0) {
                    int index = show.originIndex(count, cell);
                    show.cues[index < 0 ? count - 1 : index].changes[cell] = show.programmer[cell];
                }
            }
            Arrays.fill(show.programmer, NONE);
        }

        private void deleteCue(int number) {
            int index = show.indexOf(number);
            if (index >= 0) {
                show.removeCue(index);
            }
            if (show.blindCue == number) {
                show.blindCue = NONE;
            }
        }

        private void copyCue(int from, int to) {
            int target = show.bringCue(to);
            int source = show.indexOf(from);
            if (source >= 0 && target >= 0) {
                show.cues[target].copyFrom(show.cues[source]);
                show.cues[target].number = to;
            }
        }

        private void blockCue(int index) {
            if (index < 0) {
                return;
            }
            int[] changes = show.cues[index].changes;
            for (int cell = 0; cell < CELLS; cell++) {
                if (changes[cell] == NONE) {
                    changes[cell] = show.trackedValue(index, cell);
                }
            }
        }

        private void unblockCue(int index) {
            if (index < 1) {
                return;
            }
            int[] changes = show.cues[index].changes;
            for (int cell = 0; cell < CELLS; cell++) {
                if (changes[cell] == show.trackedValue(index, cell)) {
                    changes[cell] = NONE;
                }
            }
        }

        private void sneakAway(int time) {
            for (int cell = 0; cell < CELLS; cell++) {
                int value = show.programmer[cell];
                if (value != NONE) {
                    player.fadeFrom(cell, show.levelFor(value, cell % PARAMETERS), time);
                }
            }
            Arrays.fill(show.programmer, NONE);
        }
    }

    /** Takes cues and fades them by the clock. */
    private static final class Player {
        private final Show show;
        private int clock = 0;
        private int fadeClock = 0;
        private int current = 0;
        private int beginning = 0;
        private boolean holding = false;
        private final int[] goals = new int[CELLS];
        private final int[] starts = new int[CELLS];
        private final int[] begins = new int[CELLS];
        private final int[] times = new int[CELLS];

        Player(Show show) {
            this.show = show;
            for (int cell = 0; cell < CELLS; cell++) {
                goals[cell] = HOME[cell % PARAMETERS];
                starts[cell] = goals[cell];
            }
        }

        int cueLevel(int cell) {
            int passed = fadeClock - begins[cell];
            if (passed < 0) {
                return starts[cell];
            }
            // Behind this the time is above what has passed, so above 0.
            if (passed >= times[cell]) {
                return goals[cell];
            }
            return starts[cell] + (goals[cell] - starts[cell]) * passed / times[cell];
        }

        int countFading() {
            int count = 0;
            for (int cell = 0; cell < CELLS; cell++) {
                if (cueLevel(cell) != goals[cell]) {
                    count++;
                }
            }
            return count;
        }

        void fadeFrom(int cell, int level, int time) {
            starts[cell] = level;
            begins[cell] = fadeClock;
            times[cell] = time;
        }

        int nextIndex() {
            int index = show.indexOf(current);
            if (index >= 0) {
                int link = show.cues[index].times[LINK];
                int linked = link == NONE ? NONE : show.indexOf(link);
                if (linked >= 0) {
                    return linked;
                }
            }
            int above = show.countNotAbove(current);
            return above < show.cueCount ? above : NONE;
        }

        /** False, and nothing is taken, if there is no such cue. */
        boolean takeAndFollow(int index, boolean atOnce) {
            if (index < 0 || index >= show.cueCount) {
                return false;
            }
            take(index, atOnce);
            followCurrent();
            return true;
        }

        private void followCurrent() {
            for (int i = 0; i < MOST_FOLLOWED; i++) {
                int index = show.indexOf(current);
                if (index < 0) {
                    return;
                }
                int time = show.cues[index].times[FOLLOW];
                int next = nextIndex();
                if (time == NONE || fadeClock != beginning + time || next < 0) {
                    return;
                }
                take(next, false);
            }
        }

        private void take(int index, boolean atOnce) {
            Cue taken = show.cues[index];
            current = taken.number;
            beginning = fadeClock;
            for (int unit = 1; unit <= UNITS; unit++) {
                int dim = cellOf(unit, DIM);
                boolean dark = goals[dim] == 0 && cueLevel(dim) == 0;
                for (int parameter = 0; parameter < PARAMETERS; parameter++) {
                    int goal = show.trackedLevel(index + 1, unit, parameter);
                    boolean jumps = atOnce || dark && parameter != DIM;
                    if (goal != goals[dim + parameter]) {
                        fadeTo(dim + parameter, goal, jumps ? null : taken);
                    }
                }
            }
        }

        /** By the times of the cue; at once without one. */
        private void fadeTo(int cell, int goal, Cue timing) {
            int from = cueLevel(cell);
            goals[cell] = goal;
            fadeFrom(cell, from, 0);
            if (timing != null) {
                int ofDim = goal > from ? UP : DOWN;
                begins[cell] = fadeClock + timing.times[DELAY];
                times[cell] = timing.times[cell % PARAMETERS == DIM ? ofDim : MOVE];
            }
        }

        void tick() {
            clock++;
            for (int n = 1; n <= EVENTS; n++) {
                if (show.events[n][TIME] == clock) {
                    takeAndFollow(show.indexOf(show.events[n][TARGET]), false);
                }
            }
            if (!holding) {
                fadeClock++;
                followCurrent();
            }
        }

        /** What a text has changed of the cues is seen at once. */
        void settle() {
            int count = show.countNotAbove(current);
            for (int unit = 1; unit <= UNITS; unit++) {
                for (int parameter = 0; parameter < PARAMETERS; parameter++) {
                    int cell = cellOf(unit, parameter);
                    int goal = show.trackedLevel(count, unit, parameter);
                    if (goal != goals[cell]) {
                        goals[cell] = goal;
                        fadeFrom(cell, goal, 0);
                    }
                }
            }
        }
    }

    /** The masters, and what is seen. */
    private static final class Stage {
        private static final int FARTHEST_MOVE = 40;
        private static final int WARMTH = 30;
        private static final int HALF = 500;

        private final Show show;
        private final Player player;
        private final int[] faders = new int[SUBS + 1];
        private final boolean[] bumps = new boolean[SUBS + 1];
        private int grandLevel = FULL;
        private boolean blackedOut = false;
        private final boolean[] runs = new boolean[WAVES + 1];
        private final int[] positions = new int[UNITS + 1];

        Stage(Show show, Player player) {
            this.show = show;
            this.player = player;
        }

        private int faderOf(int s) {
            return bumps[s] ? FULL : faders[s];
        }

        int levelOf(int unit, int parameter) {
            int cell = cellOf(unit, parameter);
            int value = show.programmer[cell];
            int found = value == NONE ? player.cueLevel(cell) : show.levelFor(value, parameter);
            if (parameter == DIM && value == NONE) {
                found = Math.max(found, greatestOfSubs(unit));
            }
            for (int w = 1; w <= WAVES; w++) {
                if (runs[w] && show.waves[w][SHAPE] != NONE && show.waves[w][MOVED] == parameter) {
                    found = Math.min(FULL, found + addedBy(w, unit));
                }
            }
            return found;
        }

        private int greatestOfSubs(int unit) {
            int greatest = 0;
            for (int s = 1; s <= SUBS; s++) {
                if (show.mastering[s] == 0 && show.subs[s][unit] != NONE) {
                    greatest = Math.max(greatest, show.subs[s][unit] * faderOf(s) / FULL);
                }
            }
            return greatest;
        }

        private int addedBy(int w, int unit) {
            Row row = show.waveRows[w];
            int place = row.placeOf(unit);
            if (place < 0 || row.count == 0) {
                return 0;
            }
            int[] wave = show.waves[w];
            long turned = (long) player.clock * wave[RATE] + place * wave[SPREAD] / row.count;
            int phase = (int) (turned % FULL);
            if (wave[SHAPE] == SAW) {
                return wave[SIZE] * phase / FULL;
            }
            if (wave[SHAPE] == PEAK) {
                return wave[SIZE] * (phase < HALF ? 2 * phase : 2 * FULL - 2 * phase) / FULL;
            }
            return phase >= HALF ? wave[SIZE] : 0;
        }

        int shownOf(int unit) {
            int d = levelOf(unit, DIM) * grandLevel / FULL;
            for (int s = 1; s <= SUBS; s++) {
                if (show.mastering[s] == 1 && show.subs[s][unit] != NONE) {
                    d = d * faderOf(s) / FULL;
                }
            }
            if (blackedOut) {
                d = 0;
            }
            d = curved(Math.min(d, show.patch[unit][LIMIT]), show.patch[unit][CURVE]);
            switch (show.patch[unit][KIND]) {
                case WARM:
                    return blackedOut ? d : Math.max(d, WARMTH);
                case RELAY:
                    return d >= HALF ? FULL : 0;
                default:
                    return d;
            }
        }

        private static int curved(int d, int curve) {
            switch (curve) {
                case 1:
                    return d * d / FULL;
                case 2:
                    return d * (2 * FULL - d) / FULL;
                case 3:
                    return d > 0 ? FULL : 0;
                default:
                    return d;
            }
        }

        int byteOf(int slotNumber) {
            if (show.parks[slotNumber] != NONE) {
                return show.parks[slotNumber];
            }
            int unit = show.ownerOf(slotNumber);
            if (unit == 0) {
                return 0;
            }
            int offset = slotNumber - show.patch[unit][FIRST_SLOT];
            int code = LAYOUT[show.patch[unit][KIND] * LAYOUT_STRIDE + offset];
            int found = levelInSlot(unit, code / 10);
            int part = code % 10;
            if (part == WHOLE) {
                return (found * 255 + HALF) / FULL;
            }
            int fine = (found * 65535 + HALF) / FULL;
            return part == HIGH ? fine / 256 : fine % 256;
        }

        private int levelInSlot(int unit, int parameter) {
            int[] patch = show.patch[unit];
            switch (parameter) {
                case DIM:
                    return shownOf(unit);
                case PAN:
                    int pan = levelOf(unit, patch[SWAPPED] == 1 ? TILT : PAN);
                    return patch[INVERTED] == 1 ? FULL - pan : pan;
                case TILT:
                    return levelOf(unit, patch[SWAPPED] == 1 ? PAN : TILT);
                case IRIS:
                    return shownOf(unit) == 0 ? 0 : levelOf(unit, IRIS);
                case ROLL:
                    return positions[unit];
                default:
                    break;
            }
            int found = levelOf(unit, parameter);
            boolean dimmed = patch[KIND] == GLOW && parameter >= RED && parameter <= BLUE;
            return dimmed ? found * shownOf(unit) / FULL : found;
        }

        void moveRollers() {
            for (int unit = 1; unit <= UNITS; unit++) {
                if (show.patch[unit][KIND] == ROLLER) {
                    int way = levelOf(unit, ROLL) - positions[unit];
                    positions[unit] += Math.max(-FARTHEST_MOVE, Math.min(FARTHEST_MOVE, way));
                }
            }
        }
    }

    /** Writes the show as a text. */
    private static final class Saver {
        private final Show show;
        private final Words words;
        private final byte[] draft = new byte[TAPE_ROOM];
        private int length = 0;
        private boolean tooLong = false;
        /** Behind a word or a number, another one needs a blank. */
        private boolean needsBlank = false;

        Saver(Show show, Words words) {
            this.show = show;
            this.words = words;
        }

        void write() {
            length = 0;
            tooLong = false;
            needsBlank = false;
            for (int unit = 1; unit <= UNITS; unit++) {
                if (show.isPatched(unit)) {
                    writePatch(unit, show.patch[unit]);
                }
            }
            for (int g = 1; g <= GROUPS; g++) {
                if (show.groups[g].count > 0) {
                    writeHead(WORD_GROUP, g);
                    putSign('=');
                    putUnits(show.groups[g]);
                    close();
                }
            }
            for (int k = 1; k <= PALETTES; k++) {
                if (countValues(show.palettes[k]) > 0) {
                    writePalette(k);
                }
            }
            for (int s = 1; s <= SUBS; s++) {
                writeSub(s);
            }
            for (int w = 1; w <= WAVES; w++) {
                if (show.waves[w][SHAPE] != NONE) {
                    writeWave(w, show.waves[w]);
                }
            }
            for (int i = 0; i < show.cueCount; i++) {
                writeCue(show.cues[i]);
            }
            writeParksAndEvents();
        }

        private void writePatch(int unit, int[] row) {
            writeHead(WORD_PATCH, unit);
            putWord(row[KIND]);
            putPair(WORD_AT, row[FIRST_SLOT]);
            if (row[LIMIT] != FULL) {
                putPair(WORD_LIMIT, row[LIMIT]);
            }
            if (row[CURVE] != 0) {
                putPair(WORD_LIMIT + 1, row[CURVE]);
            }
            if (row[INVERTED] == 1) {
                putWord(WORD_INVERT);
            }
            if (row[SWAPPED] == 1) {
                putWord(WORD_SWAP);
            }
            close();
        }

        private void writePalette(int k) {
            writeHead(WORD_PALETTE, k);
            putSign('=');
            for (int parameter = 0; parameter < PARAMETERS; parameter++) {
                if (show.palettes[k][parameter] != NONE) {
                    putPair(WORD_PARAMETER + parameter, show.palettes[k][parameter]);
                }
            }
            close();
        }

        private void writeSub(int s) {
            if (show.mastering[s] == 1) {
                writeHead(WORD_SUB, s);
                putWord(WORD_MASTERS);
                close();
            }
            for (int unit = 1; unit <= UNITS; unit++) {
                if (show.subs[s][unit] != NONE) {
                    writeHead(WORD_SUB, s);
                    putPair(WORD_WITH, unit);
                    putSign('@');
                    putNumber(show.subs[s][unit]);
                    close();
                }
            }
        }

        private void writeWave(int w, int[] row) {
            writeHead(WORD_WAVE, w);
            putSign('=');
            putWord(WORD_SHAPE + row[SHAPE]);
            putWord(WORD_PARAMETER + row[MOVED]);
            putPair(WORD_SIZE, row[SIZE]);
            putPair(WORD_RATE, row[RATE]);
            putPair(WORD_SPREAD, row[SPREAD]);
            putWord(WORD_ON);
            putUnits(show.waveRows[w]);
            close();
        }

        private void writeCue(Cue saved) {
            writeHead(WORD_CUE, saved.number);
            for (int i = 0; i < TIMES; i++) {
                if (saved.times[i] != (i < FOLLOW ? 0 : NONE)) {
                    putPair(WORD_UP + i, saved.times[i]);
                }
            }
            close();
            if (countValues(saved.changes) == 0) {
                return;
            }
            writeHead(WORD_BLIND, saved.number);
            close();
            for (int unit = 1; unit <= UNITS; unit++) {
                writeChanges(unit, saved.changes);
            }
            putWord(WORD_LIVE);
            close();
        }

        private void writeChanges(int unit, int[] changes) {
            boolean begun = false;
            for (int parameter = 0; parameter < PARAMETERS; parameter++) {
                int value = changes[cellOf(unit, parameter)];
                if (value != NONE) {
                    if (!begun) {
                        putNumber(unit);
                        begun = true;
                    }
                    putWord(WORD_PARAMETER + parameter);
                    if (value >= FROM) {
                        putPair(WORD_FROM, value - FROM);
                    } else {
                        putNumber(value);
                    }
                }
            }
            if (begun) {
                close();
            }
        }

        private void writeParksAndEvents() {
            for (int k = 1; k <= SLOTS; k++) {
                if (show.parks[k] != NONE) {
                    writeHead(WORD_PARK, k);
                    putSign('@');
                    putNumber(show.parks[k]);
                    close();
                }
            }
            for (int n = 1; n <= EVENTS; n++) {
                if (show.events[n][TIME] != NONE) {
                    writeHead(WORD_EVENT, n);
                    putSign('=');
                    putNumber(show.events[n][TIME]);
                    putPair(WORD_CUE, show.events[n][TARGET]);
                    close();
                }
            }
        }

        private void writeHead(int verb, int number) {
            putWord(verb);
            putNumber(number);
        }

        private void putUnits(Row row) {
            for (int i = 0; i < row.count; i++) {
                if (i > 0) {
                    putSign('+');
                }
                putNumber(row.units[i]);
            }
        }

        private void putPair(int word, int number) {
            putWord(word);
            putNumber(number);
        }

        private void putWord(int word) {
            putBlankIfNeeded();
            int letters = words.lengthOf(word);
            for (int i = 0; i < letters; i++) {
                putByte(words.letterOf(word, i));
            }
        }

        private void putNumber(int number) {
            putBlankIfNeeded();
            boolean begun = false;
            for (int unit = 1000; unit > 0; unit /= 10) {
                int digit = number / unit % 10;
                if (begun || digit > 0 || unit == 1) {
                    putByte('0' + digit);
                    begun = true;
                }
            }
        }

        private void putBlankIfNeeded() {
            if (needsBlank) {
                putByte(' ');
            }
            needsBlank = true;
        }

        private void putSign(int sign) {
            putByte(sign);
            needsBlank = false;
        }

        private void close() {
            putSign(';');
            putByte('\n');
        }

        private void putByte(int sign) {
            if (length >= TAPE_ROOM) {
                tooLong = true;
                return;
            }
            draft[length] = (byte) sign;
            length++;
        }
    }
}
