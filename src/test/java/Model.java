import java.util.ArrayDeque;
import java.util.ArrayList;
import java.util.Collection;
import java.util.HashMap;
import java.util.LinkedHashSet;
import java.util.List;
import java.util.Map;
import java.util.TreeMap;
import java.util.TreeSet;

/** The document once more, told in another way: with maps, exceptions and lambdas, slow and plain. The fuzz test holds the desk against it. */
final class Model {
    static final List<String> KINDS = List.of("lamp", "fine", "warm", "relay", "tint", "glow", "head", "spot", "roller");
    static final List<String> PARAMETERS = List.of("dim", "red", "green", "blue", "pan", "tilt", "wheel", "iris", "roll");
    static final List<String> SHAPES = List.of("saw", "peak", "step");
    static final List<String> TIMES = List.of("up", "down", "move", "delay", "follow", "link");
    static final Map<String, Integer> HOMES = Map.of("dim", 0, "red", 1000, "green", 1000, "blue", 1000, "pan", 500, "tilt", 500, "wheel", 0, "iris", 1000, "roll", 0);
    static final List<List<String>> SLOTS = List.of(
        List.of("dim"), List.of("dim.h", "dim.l"), List.of("dim"), List.of("dim"), List.of("dim", "red", "green", "blue"),
        List.of("red", "green", "blue"), List.of("dim.h", "dim.l", "pan.h", "pan.l", "tilt.h", "tilt.l", "wheel"),
        List.of("dim.h", "dim.l", "pan.h", "pan.l", "tilt.h", "tilt.l", "wheel", "iris"), List.of("dim", "roll"));

    /** A unit's parameter. */
    record Spot(int unit, String parameter) { }

    record Patched(int kind, int first, int limit, int curve, boolean inverted, boolean swapped) {
        boolean has(String parameter) {
            return parameter.equals("dim") || SLOTS.get(kind).contains(parameter) || SLOTS.get(kind).contains(parameter + ".h");
        }
    }

    record Wave(String shape, String parameter, int size, int rate, int spread, List<Integer> units) { }

    record Event(int time, int cue) { }

    static final class CueOf {
        final TreeMap<String, Integer> times = new TreeMap<>();
        final Map<Spot, Integer> changes = new HashMap<>();

        CueOf copy() {
            CueOf other = new CueOf();
            other.times.putAll(times);
            other.changes.putAll(changes);
            return other;
        }

        int time(String name) {
            return times.getOrDefault(name, name.equals("follow") || name.equals("link") ? -1 : 0);
        }
    }

    static final class ShowOf {
        TreeMap<Integer, Patched> patch = new TreeMap<>();
        TreeMap<Integer, List<Integer>> groups = new TreeMap<>();
        TreeMap<Integer, Map<String, Integer>> palettes = new TreeMap<>();
        TreeMap<Integer, TreeMap<Integer, Integer>> subs = new TreeMap<>();
        TreeSet<Integer> mastering = new TreeSet<>();
        TreeMap<Integer, Wave> waves = new TreeMap<>();
        TreeMap<Integer, CueOf> cues = new TreeMap<>();
        Map<Spot, Integer> programmer = new HashMap<>();
        int blind = -1;
        TreeMap<Integer, Integer> parks = new TreeMap<>();
        TreeMap<Integer, Event> events = new TreeMap<>();

        ShowOf copy() {
            ShowOf other = new ShowOf();
            other.patch.putAll(patch);
            groups.forEach((g, row) -> other.groups.put(g, List.copyOf(row)));
            palettes.forEach((k, row) -> other.palettes.put(k, Map.copyOf(row)));
            subs.forEach((s, row) -> other.subs.put(s, new TreeMap<>(row)));
            other.mastering.addAll(mastering);
            other.waves.putAll(waves);
            cues.forEach((c, cue) -> other.cues.put(c, cue.copy()));
            other.programmer.putAll(programmer);
            other.blind = blind;
            other.parks.putAll(parks);
            other.events.putAll(events);
            return other;
        }
    }

    record Fade(int from, int begin, int time, int goal) { }

    static final class Fault extends RuntimeException {
        private static final long serialVersionUID = 1;
        final int number;
        final int place;

        Fault(int number, int place) {
            this.number = number;
            this.place = place;
        }
    }

    private final StringBuilder tape = new StringBuilder();
    private ShowOf show = new ShowOf();
    private final ArrayDeque<ShowOf> past = new ArrayDeque<>();
    private int fault = 0;
    private int faultPlace = -1;
    private int clock = 0;
    private int fadeClock = 0;
    private int current = 0;
    private int beginning = 0;
    private boolean hold = false;
    private final Map<Spot, Fade> fades = new HashMap<>();
    private final int[] faders = new int[9];
    private final boolean[] bumps = new boolean[9];
    private int grand = 1000;
    private boolean black = false;
    private final boolean[] runs = new boolean[5];
    private final int[] positions = new int[41];

    Model() {
        everySpot(spot -> fades.put(spot, new Fade(home(spot), 0, 0, home(spot))));
    }

    interface Of<T> {
        void on(T thing);
    }

    private static void everySpot(Of<Spot> deed) {
        for (int unit = 1; unit <= 40; unit++) {
            for (String parameter : PARAMETERS) {
                deed.on(new Spot(unit, parameter));
            }
        }
    }

    private static int home(Spot spot) {
        return HOMES.get(spot.parameter());
    }

    // ---- the tape, texts

    int feed(int... five) {
        if (tape.length() > 5980) {
            return -1;
        }
        for (int number : five) {
            tape.append((char) (number >>> 24)).append((char) (number >>> 16 & 255)).append((char) (number >>> 8 & 255)).append((char) (number & 255));
        }
        return tape.length();
    }

    int end(int n) {
        if (n < 0 || n > tape.length()) {
            return -1;
        }
        tape.setLength(n);
        return n;
    }

    int tape(int i) {
        return i < 0 || i >= tape.length() ? -1 : tape.charAt(i);
    }

    int fault(int what) {
        return what == 0 ? fault : what == 1 ? faultPlace : -1;
    }

    int enter() {
        fault = 0;
        faultPlace = -1;
        int done = 0;
        ModelText text = new ModelText(tape.toString());
        try {
            while (!text.isOver()) {
                List<Runnable> checks = new ArrayList<>();
                Runnable deed = statement(text, checks);
                checks.forEach(Runnable::run);
                if (done == 0) {
                    past.addLast(show.copy());
                    if (past.size() > 8) {
                        past.removeFirst();
                    }
                }
                deed.run();
                done++;
            }
        } catch (Fault met) {
            fault = met.number;
            faultPlace = met.place;
        }
        tape.setLength(0);
        settle();
        return done;
    }

    int undo() {
        if (past.isEmpty()) {
            return -1;
        }
        show = past.removeLast();
        settle();
        return 1;
    }

    private void settle() {
        everySpot(spot -> {
            int goal = trackedLevel(current, spot);
            if (goal != fades.get(spot).goal()) {
                fades.put(spot, new Fade(goal, fadeClock, 0, goal));
            }
        });
    }

    // ---- the grammar

    private int number(ModelText text, List<Runnable> checks, int least, int greatest) {
        int place = text.place();
        int number = text.number();
        checks.add(() -> need(number >= least && number <= greatest, 3, place));
        return number;
    }

    private static void need(boolean holds, int number, int place) {
        if (!holds) {
            throw new Fault(number, place);
        }
    }

    private int cueThere(ModelText text, List<Runnable> checks) {
        int place = text.place();
        int number = text.number();
        checks.add(() -> need(show.cues.containsKey(number), 2, place));
        return number;
    }

    private int cueToCome(ModelText text, List<Runnable> checks) {
        int place = text.place();
        int number = number(text, checks, 1, 999);
        checks.add(() -> need(show.cues.containsKey(number) || show.cues.size() < 30, 5, place));
        return number;
    }

    private void needHeld(List<Runnable> checks, int place) {
        checks.add(() -> need(!show.programmer.isEmpty(), 6, place));
    }

    private Runnable statement(ModelText text, List<Runnable> checks) {
        text.begin();
        Runnable deed;
        int place = text.place();
        if (text.isNumber() || text.is("all") || text.is("group") && !text.isGroupMade()) {
            LinkedHashSet<Integer> units = new LinkedHashSet<>();
            set(text, checks, units);
            List<Runnable> whats = new ArrayList<>();
            do {
                what(text, checks, units, whats);
            } while (!text.is(";"));
            deed = () -> whats.forEach(Runnable::run);
        } else {
            String verb = text.oneOf(List.of("patch", "unpatch", "group", "palette", "sub", "wave", "cue", "record", "update", "delete", "copy",
                "block", "unblock", "blind", "live", "clear", "sneak", "park", "unpark", "event"));
            deed = verb(verb, place, text, checks);
        }
        text.pass(";");
        return deed;
    }

    private Runnable verb(String verb, int wordPlace, ModelText text, List<Runnable> checks) {
        LinkedHashSet<Integer> units = new LinkedHashSet<>();
        switch (verb) {
            case "patch":
                return patch(text, checks);
            case "unpatch":
                set(text, checks, units);
                return () -> units.forEach(this::unpatch);
            case "group": {
                int g = number(text, checks, 1, 12);
                text.pass("=");
                set(text, checks, units);
                return () -> show.groups.put(g, List.copyOf(units));
            }
            case "palette":
                return palette(text, checks);
            case "sub":
                return sub(text, checks);
            case "wave":
                return wave(text, checks);
            case "cue": {
                int c = cueToCome(text, checks);
                Of<CueOf> times = times(text, checks);
                return () -> times.on(show.cues.computeIfAbsent(c, key -> new CueOf()));
            }
            case "record":
                needHeld(checks, wordPlace);
                return record(text, checks);
            case "update":
                needHeld(checks, wordPlace);
                checks.add(() -> need(current != 0 && show.cues.floorKey(current) != null, 7, wordPlace));
                return this::update;
            case "delete": {
                int c = cueThere(text, checks);
                return () -> {
                    show.cues.remove(c);
                    show.blind = show.blind == c ? -1 : show.blind;
                };
            }
            case "copy": {
                int c = cueThere(text, checks);
                text.pass("to");
                int place = text.place();
                int to = number(text, checks, 1, 999);
                checks.add(() -> need(!show.cues.containsKey(to), 7, place));
                checks.add(() -> need(show.cues.size() < 30, 5, place));
                return () -> show.cues.put(to, show.cues.get(c).copy());
            }
            case "block": {
                int c = cueThere(text, checks);
                return () -> everySpot(spot -> {
                    if (tracked(c, spot) != null) {
                        show.cues.get(c).changes.put(spot, tracked(c, spot));
                    }
                });
            }
            case "unblock": {
                int c = cueThere(text, checks);
                return () -> everySpot(spot -> {
                    Integer lesser = show.cues.lowerKey(c);
                    if (lesser != null && tracked(lesser, spot) != null) {
                        show.cues.get(c).changes.remove(spot, tracked(lesser, spot));
                    }
                });
            }
            default:
                return verbOfRest(verb, wordPlace, text, checks);
        }
    }

    private Runnable verbOfRest(String verb, int wordPlace, ModelText text, List<Runnable> checks) {
        switch (verb) {
            case "blind": {
                int c = cueThere(text, checks);
                return () -> show.blind = c;
            }
            case "live":
                return () -> show.blind = -1;
            case "clear":
                return () -> show.programmer.clear();
            case "sneak": {
                needHeld(checks, wordPlace);
                int time = number(text, checks, 0, 600);
                return () -> {
                    show.programmer.forEach((spot, value) -> fades.put(spot, new Fade(level(value, spot), fadeClock, time, fades.get(spot).goal())));
                    show.programmer.clear();
                };
            }
            case "park": {
                int k = number(text, checks, 1, 200);
                text.pass("@");
                int b = number(text, checks, 0, 255);
                return () -> show.parks.put(k, b);
            }
            case "unpark": {
                if (text.passIf("all")) {
                    return () -> show.parks.clear();
                }
                int k = number(text, checks, 1, 200);
                return () -> show.parks.remove(k);
            }
            default: {
                int n = number(text, checks, 1, 10);
                text.pass("=");
                if (text.passIf("none")) {
                    return () -> show.events.remove(n);
                }
                int time = number(text, checks, 0, 9999);
                text.pass("cue");
                int c = number(text, checks, 1, 999);
                return () -> show.events.put(n, new Event(time, c));
            }
        }
    }

    private Runnable patch(ModelText text, List<Runnable> checks) {
        int unitPlace = text.place();
        int unit = number(text, checks, 1, 40);
        checks.add(() -> need(!show.patch.containsKey(unit), 7, unitPlace));
        int kind = KINDS.indexOf(text.oneOf(KINDS));
        text.pass("at");
        int place = text.place();
        int first = number(text, checks, 1, 200);
        checks.add(() -> {
            for (int k = first; k < first + SLOTS.get(kind).size(); k++) {
                need(k <= 200 && owner(k) == 0, 4, place);
            }
        });
        Map<String, Integer> told = new HashMap<>();
        while (!text.is(";")) {
            String word = text.oneOfNew(List.of("limit", "curve", "invert", "swap"), told.keySet());
            told.put(word, word.equals("limit") ? number(text, checks, 0, 1000) : word.equals("curve") ? number(text, checks, 0, 3) : 1);
        }
        return () -> {
            show.patch.put(unit, new Patched(kind, first, told.getOrDefault("limit", 1000), told.getOrDefault("curve", 0),
                told.containsKey("invert"), told.containsKey("swap")));
            positions[unit] = 0;
        };
    }

    private int owner(int slot) {
        for (Map.Entry<Integer, Patched> entry : show.patch.entrySet()) {
            int first = entry.getValue().first();
            if (slot >= first && slot < first + SLOTS.get(entry.getValue().kind()).size()) {
                return entry.getKey();
            }
        }
        return 0;
    }

    private void unpatch(int unit) {
        show.patch.remove(unit);
        for (int g : List.copyOf(show.groups.keySet())) {
            List<Integer> left = new ArrayList<>(show.groups.get(g));
            left.remove(Integer.valueOf(unit));
            show.groups.put(g, left);
        }
        show.subs.values().forEach(row -> row.remove(unit));
        for (int w : List.copyOf(show.waves.keySet())) {
            Wave wave = show.waves.get(w);
            List<Integer> left = new ArrayList<>(wave.units());
            left.remove(Integer.valueOf(unit));
            if (left.isEmpty()) {
                show.waves.remove(w);
            } else {
                show.waves.put(w, new Wave(wave.shape(), wave.parameter(), wave.size(), wave.rate(), wave.spread(), left));
            }
        }
        for (String parameter : PARAMETERS) {
            show.programmer.remove(new Spot(unit, parameter));
            show.cues.values().forEach(cue -> cue.changes.remove(new Spot(unit, parameter)));
        }
    }

    private Runnable palette(ModelText text, List<Runnable> checks) {
        int k = number(text, checks, 1, 12);
        text.pass("=");
        Map<String, Integer> levels = new HashMap<>();
        if (!text.passIf("none")) {
            do {
                levels.put(text.oneOfNew(PARAMETERS, levels.keySet()), number(text, checks, 0, 1000));
            } while (!text.is(";"));
        }
        return () -> show.palettes.put(k, levels);
    }

    private Runnable sub(ModelText text, List<Runnable> checks) {
        int s = number(text, checks, 1, 8);
        switch (text.oneOf(List.of("none", "with", "adds", "masters"))) {
            case "none":
                return () -> show.subs.remove(s);
            case "with":
                LinkedHashSet<Integer> units = new LinkedHashSet<>();
                set(text, checks, units);
                text.pass("@");
                int level = number(text, checks, 0, 1000);
                return () -> units.forEach(unit -> show.subs.computeIfAbsent(s, key -> new TreeMap<>()).put(unit, level));
            case "adds":
                return () -> show.mastering.remove(s);
            default:
                return () -> show.mastering.add(s);
        }
    }

    private Runnable wave(ModelText text, List<Runnable> checks) {
        int w = number(text, checks, 1, 4);
        text.pass("=");
        if (text.passIf("none")) {
            return () -> show.waves.remove(w);
        }
        String shape = text.oneOf(SHAPES);
        String parameter = text.oneOf(PARAMETERS);
        text.pass("size");
        int size = number(text, checks, 0, 1000);
        text.pass("rate");
        int rate = number(text, checks, 0, 1000);
        text.pass("spread");
        int spread = number(text, checks, 0, 1000);
        text.pass("on");
        LinkedHashSet<Integer> units = new LinkedHashSet<>();
        set(text, checks, units);
        return () -> show.waves.put(w, new Wave(shape, parameter, size, rate, spread, List.copyOf(units)));
    }

    private Of<CueOf> times(ModelText text, List<Runnable> checks) {
        Map<String, Integer> told = new HashMap<>();
        List<String> words = List.of("up", "down", "move", "delay", "follow", "link", "stay", "loose");
        while (!text.is(";")) {
            List<String> had = new ArrayList<>(told.keySet());
            if (had.contains("follow")) {
                had.add("stay");
            }
            if (had.contains("link")) {
                had.add("loose");
            }
            String word = text.oneOfNew(words, had);
            if (word.equals("stay")) {
                told.put("follow", -1);
            } else if (word.equals("loose")) {
                told.put("link", -1);
            } else {
                told.put(word, word.equals("link") ? number(text, checks, 1, 999) : number(text, checks, 0, 600));
            }
        }
        return cue -> cue.times.putAll(told);
    }

    private Runnable record(ModelText text, List<Runnable> checks) {
        int c = cueToCome(text, checks);
        boolean only = text.passIf("only");
        Of<CueOf> times = times(text, checks);
        return () -> {
            CueOf cue = show.cues.computeIfAbsent(c, key -> new CueOf());
            times.on(cue);
            Integer next = show.cues.higherKey(c);
            if (only && next != null) {
                for (Spot spot : show.programmer.keySet()) {
                    Integer value = tracked(next, spot);
                    show.cues.get(next).changes.put(spot, value == null ? home(spot) : value);
                }
            }
            cue.changes.putAll(show.programmer);
        };
    }

    private void update() {
        show.programmer.forEach((spot, value) -> {
            Integer origin = origin(current, spot);
            show.cues.get(origin == null ? show.cues.floorKey(current) : origin).changes.put(spot, value);
        });
        show.programmer.clear();
    }

    private void set(ModelText text, List<Runnable> checks, LinkedHashSet<Integer> units) {
        int place = text.place();
        boolean puts = true;
        while (true) {
            term(text, checks, units, puts);
            if (text.passIf("+")) {
                puts = true;
            } else if (text.passIf("-")) {
                puts = false;
            } else {
                break;
            }
        }
        checks.add(() -> need(!units.isEmpty(), 6, place));
    }

    private void term(ModelText text, List<Runnable> checks, LinkedHashSet<Integer> units, boolean puts) {
        List<Integer> found = new ArrayList<>();
        if (text.passIf("all")) {
            checks.add(() -> found.addAll(show.patch.keySet()));
        } else if (text.passIf("group")) {
            int place = text.place();
            int g = number(text, checks, 1, 12);
            checks.add(() -> need(!show.groups.getOrDefault(g, List.of()).isEmpty(), 2, place));
            checks.add(() -> found.addAll(show.groups.get(g)));
        } else {
            int place = text.place();
            int n = number(text, checks, 1, 40);
            if (text.passIf("thru")) {
                int m = number(text, checks, 1, 40);
                checks.add(() -> found.addAll(n <= m ? show.patch.subMap(n, true, m, true).keySet()
                    : show.patch.descendingMap().subMap(n, true, m, true).keySet()));
            } else {
                checks.add(() -> need(show.patch.containsKey(n), 2, place));
                checks.add(() -> found.add(n));
            }
        }
        checks.add(() -> {
            if (puts) {
                units.addAll(found);
            } else {
                units.removeAll(found);
            }
        });
    }

    interface Teller {
        Integer value(Spot spot, int k, int n);
    }

    private void what(ModelText text, List<Runnable> checks, LinkedHashSet<Integer> units, List<Runnable> whats) {
        List<String> words = new ArrayList<>(PARAMETERS);
        words.addAll(List.of("@", "palette", "home", "release"));
        String word = text.oneOf(words);
        switch (word) {
            case "palette":
                int p = number(text, checks, 1, 12);
                whats.add(() -> tell(units, PARAMETERS, (spot, k, n) ->
                    show.palettes.getOrDefault(p, Map.of()).containsKey(spot.parameter()) ? Integer.valueOf(2000 + p) : target().get(spot)));
                break;
            case "home":
                whats.add(() -> tell(units, PARAMETERS, (spot, k, n) -> home(spot)));
                break;
            case "release":
                whats.add(() -> tell(units, PARAMETERS, (spot, k, n) -> null));
                break;
            default:
                Teller teller = teller(text, checks);
                List<String> one = List.of(word.equals("@") ? "dim" : word);
                whats.add(() -> tell(units, one, teller));
                break;
        }
    }

    private Map<Spot, Integer> target() {
        return show.blind == -1 ? show.programmer : show.cues.get(show.blind).changes;
    }

    private void tell(LinkedHashSet<Integer> units, List<String> parameters, Teller teller) {
        int k = 0;
        for (int unit : units) {
            for (String parameter : parameters) {
                Spot spot = new Spot(unit, parameter);
                if (show.patch.get(unit).has(parameter)) {
                    Integer value = teller.value(spot, k, units.size());
                    if (value == null) {
                        target().remove(spot);
                    } else {
                        target().put(spot, value);
                    }
                }
            }
            k++;
        }
    }

    private Teller teller(ModelText text, List<Runnable> checks) {
        if (text.passIf("full")) {
            return (spot, k, n) -> 1000;
        }
        if (text.passIf("from")) {
            int p = number(text, checks, 1, 12);
            return (spot, k, n) -> 2000 + p;
        }
        if (text.is("+") || text.is("-")) {
            int sign = text.oneOf(List.of("+", "-")).equals("+") ? 1 : -1;
            int more = number(text, checks, 0, 1000);
            return (spot, k, n) -> Math.max(0, Math.min(1000, had(spot) + sign * more));
        }
        int a = number(text, checks, 0, 1000);
        if (!text.passIf("thru")) {
            return (spot, k, n) -> a;
        }
        int b = number(text, checks, 0, 1000);
        return (spot, k, n) -> n == 1 ? a : mix(a, b, k, n - 1);
    }

    private int had(Spot spot) {
        if (show.blind != -1) {
            return trackedLevel(show.blind, spot);
        }
        return show.programmer.containsKey(spot) ? level(show.programmer.get(spot), spot) : cueLevel(spot);
    }

    private static int mix(int a, int b, int p, int q) {
        long moved = (long) Math.abs(b - a) * p / q;
        return (int) (b < a ? a - moved : a + moved);
    }

    // ---- values

    private int level(Integer value, Spot spot) {
        if (value == null) {
            return home(spot);
        }
        return value < 2000 ? value : show.palettes.getOrDefault(value - 2000, Map.of()).getOrDefault(spot.parameter(), home(spot));
    }

    private Integer origin(int c, Spot spot) {
        for (int number : show.cues.headMap(c, true).descendingKeySet()) {
            if (show.cues.get(number).changes.containsKey(spot)) {
                return number;
            }
        }
        return null;
    }

    private Integer tracked(int c, Spot spot) {
        Integer origin = origin(c, spot);
        return origin == null ? null : show.cues.get(origin).changes.get(spot);
    }

    private int trackedLevel(int c, Spot spot) {
        return level(tracked(c, spot), spot);
    }

    private int cueLevel(Spot spot) {
        Fade fade = fades.get(spot);
        if (fadeClock < fade.begin()) {
            return fade.from();
        }
        return fadeClock >= fade.begin() + fade.time() ? fade.goal() : mix(fade.from(), fade.goal(), fadeClock - fade.begin(), fade.time());
    }

    // ---- playing

    private void take(int c, boolean atOnce) {
        CueOf cue = show.cues.get(c);
        current = c;
        beginning = fadeClock;
        TreeSet<Integer> dark = new TreeSet<>();
        for (int unit = 1; unit <= 40; unit++) {
            Spot dim = new Spot(unit, "dim");
            if (cueLevel(dim) == 0 && fades.get(dim).goal() == 0) {
                dark.add(unit);
            }
        }
        everySpot(spot -> {
            int g = trackedLevel(c, spot);
            if (g == fades.get(spot).goal()) {
                return;
            }
            int from = cueLevel(spot);
            boolean isDim = spot.parameter().equals("dim");
            boolean instantly = atOnce || !isDim && dark.contains(spot.unit());
            int time = cue.time(isDim ? g > from ? "up" : "down" : "move");
            fades.put(spot, new Fade(from, fadeClock + (instantly ? 0 : cue.time("delay")), instantly ? 0 : time, g));
        });
    }

    private Integer next() {
        if (show.cues.containsKey(current)) {
            int link = show.cues.get(current).time("link");
            if (show.cues.containsKey(link)) {
                return link;
            }
        }
        return show.cues.higherKey(current);
    }

    private void follow() {
        for (int i = 0; i < 30; i++) {
            CueOf cue = show.cues.get(current);
            if (cue == null || cue.time("follow") == -1 || fadeClock != beginning + cue.time("follow") || next() == null) {
                return;
            }
            take(next(), false);
        }
    }

    private int taken(Integer c, boolean atOnce, int without) {
        if (c == null || !show.cues.containsKey(c)) {
            return without;
        }
        take(c, atOnce);
        follow();
        return current;
    }

    int go() {
        return taken(next(), false, -1);
    }

    int back() {
        return taken(show.cues.lowerKey(current), true, -1);
    }

    int jump(int c) {
        return taken(c, false, -2);
    }

    boolean hold(boolean on) {
        boolean was = hold;
        hold = on;
        return was;
    }

    int advance(int n) {
        if (n < 0 || n > 600) {
            return -4;
        }
        for (int i = 0; i < n; i++) {
            clock++;
            show.events.forEach((number, event) -> {
                if (event.time() == clock) {
                    taken(event.cue(), false, 0);
                }
            });
            if (!hold) {
                fadeClock++;
                follow();
            }
            show.patch.forEach((unit, patched) -> {
                if (patched.kind() == 8) {
                    int due = level(unit, 8);
                    positions[unit] = due > positions[unit] ? Math.min(due, positions[unit] + 40) : Math.max(due, positions[unit] - 40);
                }
            });
        }
        return clock;
    }

    int fader(int s, int level) {
        if (s < 1 || s > 8) {
            return -2;
        }
        if (level < 0 || level > 1000) {
            return -4;
        }
        int was = faders[s];
        faders[s] = level;
        return was;
    }

    int bump(int s, boolean on) {
        if (s < 1 || s > 8) {
            return -2;
        }
        int was = bumps[s] ? 1 : 0;
        bumps[s] = on;
        return was;
    }

    int grand(int level) {
        if (level < 0 || level > 1000) {
            return -4;
        }
        int was = grand;
        grand = level;
        return was;
    }

    boolean black(boolean on) {
        boolean was = black;
        black = on;
        return was;
    }

    int run(int w, boolean on) {
        if (w < 1 || w > 4) {
            return -2;
        }
        int was = runs[w] ? 1 : 0;
        runs[w] = on;
        return was;
    }

    // ---- what is seen

    private int fader(int s) {
        return bumps[s] ? 1000 : faders[s];
    }

    int level(int unit, int parameter) {
        if (parameter < 0 || parameter > 8 || !show.patch.containsKey(unit) || !show.patch.get(unit).has(PARAMETERS.get(parameter))) {
            return -2;
        }
        Spot spot = new Spot(unit, PARAMETERS.get(parameter));
        int level;
        if (show.programmer.containsKey(spot)) {
            level = level(show.programmer.get(spot), spot);
        } else {
            level = cueLevel(spot);
            for (int s : show.subs.keySet()) {
                if (parameter == 0 && !show.mastering.contains(s) && show.subs.get(s).containsKey(unit)) {
                    level = Math.max(level, show.subs.get(s).get(unit) * fader(s) / 1000);
                }
            }
        }
        for (int w : show.waves.keySet()) {
            Wave wave = show.waves.get(w);
            int k = wave.units().indexOf(unit);
            if (runs[w] && wave.parameter().equals(spot.parameter()) && k >= 0) {
                level = Math.min(1000, level + added(wave, k));
            }
        }
        return level;
    }

    private int added(Wave wave, int k) {
        long f = ((long) clock * wave.rate() + k * wave.spread() / wave.units().size()) % 1000;
        long height = switch (wave.shape()) {
            case "saw" -> f;
            case "peak" -> f < 500 ? 2 * f : 2000 - 2 * f;
            default -> f >= 500 ? 1000 : 0;
        };
        return (int) (wave.size() * height / 1000);
    }

    int shown(int unit) {
        Patched patched = show.patch.get(unit);
        if (patched == null) {
            return -2;
        }
        int d = level(unit, 0) * grand / 1000;
        for (int s : show.mastering) {
            if (show.subs.getOrDefault(s, new TreeMap<>()).containsKey(unit)) {
                d = d * fader(s) / 1000;
            }
        }
        d = Math.min(black ? 0 : d, patched.limit());
        int[] curves = {d, d * d / 1000, d * (2000 - d) / 1000, d > 0 ? 1000 : 0};
        d = curves[patched.curve()];
        if (patched.kind() == 2 && !black) {
            d = Math.max(30, d);
        }
        return patched.kind() == 3 ? d >= 500 ? 1000 : 0 : d;
    }

    int slot(int k) {
        if (k < 1 || k > 200) {
            return -2;
        }
        if (show.parks.containsKey(k)) {
            return show.parks.get(k);
        }
        int unit = owner(k);
        if (unit == 0) {
            return 0;
        }
        Patched patched = show.patch.get(unit);
        String[] name = SLOTS.get(patched.kind()).get(k - patched.first()).split("\\.");
        int v = slotLevel(unit, patched, name[0]);
        int w = (int) (((long) v * 65535 + 500) / 1000);
        return name.length == 1 ? (v * 255 + 500) / 1000 : name[1].equals("h") ? w / 256 : w % 256;
    }

    private int slotLevel(int unit, Patched patched, String name) {
        int pan = level(unit, patched.swapped() ? 5 : 4);
        int level = level(unit, PARAMETERS.indexOf(name));
        return switch (name) {
            case "dim" -> shown(unit);
            case "red", "green", "blue" -> patched.kind() == 5 ? level * shown(unit) / 1000 : level;
            case "pan" -> patched.inverted() ? 1000 - pan : pan;
            case "tilt" -> level(unit, patched.swapped() ? 4 : 5);
            case "iris" -> shown(unit) == 0 ? 0 : level;
            case "roll" -> positions[unit];
            default -> level;
        };
    }

    // ---- the show

    private static Spot spot(int unit, int parameter) {
        return unit < 1 || unit > 40 || parameter < 0 || parameter > 8 ? null : new Spot(unit, PARAMETERS.get(parameter));
    }

    int tracked(int c, int unit, int parameter) {
        Spot spot = spot(unit, parameter);
        return c < 0 || c > 999 || spot == null ? -2 : trackedLevel(c, spot);
    }

    int origin(int c, int unit, int parameter) {
        Spot spot = spot(unit, parameter);
        if (c < 0 || c > 999 || spot == null) {
            return -2;
        }
        Integer origin = origin(c, spot);
        return origin == null ? 0 : origin;
    }

    int change(int c, int unit, int parameter) {
        Spot spot = spot(unit, parameter);
        return !show.cues.containsKey(c) || spot == null ? -2 : show.cues.get(c).changes.getOrDefault(spot, -1);
    }

    int held(int unit, int parameter) {
        Spot spot = spot(unit, parameter);
        return spot == null ? -2 : show.programmer.getOrDefault(spot, -1);
    }

    int cue(int i, int what) {
        if (i < 0 || i >= show.cues.size() || what < 0 || what > 7) {
            return -1;
        }
        int number = new ArrayList<>(show.cues.keySet()).get(i);
        CueOf cue = show.cues.get(number);
        return what == 0 ? number : what == 6 ? cue.changes.size() : cue.time(TIMES.get(what == 7 ? 5 : what - 1));
    }

    int unit(int unit, int what) {
        Patched patched = show.patch.get(unit);
        if (patched == null || what < 0 || what > 6) {
            return -1;
        }
        int[] answers = {patched.kind(), patched.first(), patched.limit(), patched.curve(), patched.inverted() ? 1 : 0, patched.swapped() ? 1 : 0, positions[unit]};
        return answers[what];
    }

    int group(int g, int i) {
        List<Integer> row = show.groups.getOrDefault(g, List.of());
        return i < 0 || i >= row.size() ? -1 : row.get(i);
    }

    int palette(int k, int parameter) {
        return parameter < 0 || parameter > 8 ? -1 : show.palettes.getOrDefault(k, Map.of()).getOrDefault(PARAMETERS.get(parameter), -1);
    }

    int sub(int s, int unit) {
        return show.subs.containsKey(s) ? show.subs.get(s).getOrDefault(unit, -1) : -1;
    }

    int masters(int s) {
        return s < 1 || s > 8 ? -2 : show.mastering.contains(s) ? 1 : 0;
    }

    int park(int k) {
        return show.parks.getOrDefault(k, -1);
    }

    int event(int n, int what) {
        Event event = show.events.get(n);
        return event == null || what < 0 || what > 1 ? -1 : what == 0 ? event.time() : event.cue();
    }

    int wave(int w, int what) {
        Wave wave = show.waves.get(w);
        if (wave == null || what < 0 || what >= 5 + wave.units().size()) {
            return -1;
        }
        int[] answers = {SHAPES.indexOf(wave.shape()), PARAMETERS.indexOf(wave.parameter()), wave.size(), wave.rate(), wave.spread()};
        return what < 5 ? answers[what] : wave.units().get(what - 5);
    }

    int state(int what) {
        switch (what) {
            case 0:
                return clock;
            case 1:
                return fadeClock;
            case 2:
                return current;
            case 3:
                return show.cues.size();
            case 4:
                return show.patch.size();
            case 5:
                return past.size();
            case 6:
                return show.blind;
            case 7:
                return show.programmer.size();
            case 8:
                return (int) fades.keySet().stream().filter(spot -> cueLevel(spot) != fades.get(spot).goal()).count();
            case 9:
                return tape.length();
            default:
                return -1;
        }
    }

    // ---- saving

    int save() {
        StringBuilder text = new StringBuilder();
        show.patch.forEach((unit, row) -> text.append("patch " + unit + " " + KINDS.get(row.kind()) + " at " + row.first()
            + (row.limit() != 1000 ? " limit " + row.limit() : "") + (row.curve() != 0 ? " curve " + row.curve() : "")
            + (row.inverted() ? " invert" : "") + (row.swapped() ? " swap" : "") + ";\n"));
        show.groups.forEach((g, row) -> text.append(row.isEmpty() ? "" : "group " + g + "=" + joined(row) + ";\n"));
        show.palettes.forEach((k, row) -> text.append(row.isEmpty() ? "" : "palette " + k + "="
            + String.join(" ", PARAMETERS.stream().filter(row::containsKey).map(p -> p + " " + row.get(p)).toList()) + ";\n"));
        for (int s = 1; s <= 8; s++) {
            int number = s;
            text.append(show.mastering.contains(s) ? "sub " + s + " masters;\n" : "");
            show.subs.getOrDefault(s, new TreeMap<>()).forEach((unit, level) -> text.append("sub " + number + " with " + unit + "@" + level + ";\n"));
        }
        show.waves.forEach((w, row) -> text.append("wave " + w + "=" + row.shape() + " " + row.parameter() + " size " + row.size() + " rate " + row.rate()
            + " spread " + row.spread() + " on " + joined(row.units()) + ";\n"));
        show.cues.forEach((c, cue) -> text.append(saved(c, cue)));
        show.parks.forEach((k, b) -> text.append("park " + k + "@" + b + ";\n"));
        show.events.forEach((n, event) -> text.append("event " + n + "=" + event.time() + " cue " + event.cue() + ";\n"));
        if (text.length() > 6000) {
            return -1;
        }
        tape.setLength(0);
        tape.append(text);
        return tape.length();
    }

    private static String joined(List<Integer> units) {
        return String.join("+", units.stream().map(String::valueOf).toList());
    }

    private static String saved(int c, CueOf cue) {
        StringBuilder text = new StringBuilder("cue " + c);
        for (String name : TIMES) {
            boolean isThere = name.equals("follow") || name.equals("link") ? cue.time(name) != -1 : cue.time(name) != 0;
            text.append(isThere ? " " + name + " " + cue.time(name) : "");
        }
        text.append(";\n");
        if (cue.changes.isEmpty()) {
            return text.toString();
        }
        text.append("blind " + c + ";\n");
        for (int unit = 1; unit <= 40; unit++) {
            int number = unit;
            List<String> told = PARAMETERS.stream().filter(p -> cue.changes.containsKey(new Spot(number, p))).map(p -> {
                int value = cue.changes.get(new Spot(number, p));
                return p + (value >= 2000 ? " from " + (value - 2000) : " " + value);
            }).toList();
            text.append(told.isEmpty() ? "" : unit + " " + String.join(" ", told) + ";\n");
        }
        return text.append("live;\n").toString();
    }

    /** The tokens of a text; what no statement goes on with is fault 1. */
    private static final class ModelText {
        private final String text;
        private int at = 0;
        private int tokens = 0;

        ModelText(String text) {
            this.text = text;
        }

        void begin() {
            tokens = 0;
        }

        int place() {
            while (at < text.length() && " \n".indexOf(text.charAt(at)) >= 0) {
                at++;
            }
            return at;
        }

        boolean isOver() {
            return place() == text.length();
        }

        private static boolean isLetter(char sign) {
            return sign >= 'a' && sign <= 'z';
        }

        private static boolean isDigit(char sign) {
            return sign >= '0' && sign <= '9';
        }

        /** The token that is next, "" if none is or it is one too many. */
        private String peek() {
            int from = place();
            int to = from;
            if (from == text.length() || tokens >= 120) {
                return "";
            }
            if (isLetter(text.charAt(from))) {
                while (to < text.length() && isLetter(text.charAt(to))) {
                    to++;
                }
                return to - from > 9 ? "" : text.substring(from, to);
            }
            if (isDigit(text.charAt(from))) {
                while (to < text.length() && isDigit(text.charAt(to))) {
                    to++;
                }
                return to - from > 4 ? "" : text.substring(from, to);
            }
            return ";+-=@".indexOf(text.charAt(from)) >= 0 ? text.substring(from, from + 1) : "";
        }

        boolean is(String token) {
            return peek().equals(token);
        }

        boolean isNumber() {
            return !peek().isEmpty() && isDigit(peek().charAt(0));
        }

        private String take() {
            String token = peek();
            at += token.length();
            tokens++;
            return token;
        }

        boolean passIf(String token) {
            if (is(token)) {
                take();
                return true;
            }
            return false;
        }

        void pass(String token) {
            need(passIf(token), 1, place());
        }

        int number() {
            need(isNumber(), 1, place());
            return Integer.parseInt(take());
        }

        String oneOf(List<String> tokens) {
            need(tokens.contains(peek()), 1, place());
            return take();
        }

        String oneOfNew(List<String> tokens, Collection<String> had) {
            need(!had.contains(peek()), 1, place());
            return oneOf(tokens);
        }

        /** Whether group N = is next. */
        boolean isGroupMade() {
            int before = at;
            int count = tokens;
            take();
            boolean is = isNumber();
            take();
            is = is && is("=");
            at = before;
            tokens = count;
            return is;
        }
    }
}
