import java.util.ArrayList;
import java.util.HashMap;
import java.util.HashSet;
import java.util.List;
import java.util.Map;
import java.util.Set;

/**
 * The grammar of "Terms" 2, as the document writes it, walked token by token: of every statement below each beginning is
 * gone on with by every token there is, and fault 1 has to stand at the first one with which no statement goes on.
 */
public final class GrammarTest {
    private static final Checks CHECKS = new Checks("GrammarTest");

    private static final String KINDS = "\"lamp\" | \"fine\" | \"warm\" | \"relay\" | \"tint\" | \"glow\" | \"head\" | \"spot\" | \"roller\"";
    private static final String PARAMETERS =
        "\"dim\" | \"red\" | \"green\" | \"blue\" | \"pan\" | \"tilt\" | \"wheel\" | \"iris\" | \"roll\"";
    private static final String[][] RULES = {
        {"st", "( \"patch\" N kind \"at\" N { \"limit\" N | \"curve\" N | \"invert\" | \"swap\" } | \"unpatch\" set | set what { what } "
            + "| \"group\" N \"=\" set | \"palette\" N \"=\" ( \"none\" | parameter N { parameter N } ) "
            + "| \"sub\" N ( \"none\" | \"with\" set \"@\" N | \"adds\" | \"masters\" ) "
            + "| \"wave\" N \"=\" ( \"none\" | shape parameter \"size\" N \"rate\" N \"spread\" N \"on\" set ) | \"cue\" N times "
            + "| \"record\" N [ \"only\" ] times | \"update\" | \"delete\" N | \"copy\" N \"to\" N | \"block\" N | \"unblock\" N | \"blind\" N "
            + "| \"live\" | \"clear\" | \"sneak\" N | \"park\" N \"@\" N | \"unpark\" ( N | \"all\" ) "
            + "| \"event\" N \"=\" ( \"none\" | N \"cue\" N ) ) \";\""},
        {"kind", KINDS},
        {"parameter", PARAMETERS},
        {"shape", "\"saw\" | \"peak\" | \"step\""},
        {"times", "{ ( \"up\" | \"down\" | \"move\" | \"delay\" | \"follow\" | \"link\" ) N | \"stay\" | \"loose\" }"},
        {"set", "term { ( \"+\" | \"-\" ) term }"},
        {"term", "\"all\" | \"group\" N | N [ \"thru\" N ]"},
        {"what", "( parameter | \"@\" ) ( N [ \"thru\" N ] | \"full\" | \"from\" N | ( \"+\" | \"-\" ) N ) | \"palette\" N | \"home\" | "
            + "\"release\""}};

    /** Together these take every way through the grammar, and every { } no time, once and again. */
    private static final String[] STATEMENTS = {
        "patch 1 lamp at 5 ;", "patch 1 spot at 5 limit 5 ;", "patch 1 tint at 5 curve 1 invert swap limit 7 ;", "patch 1 fine at 5 swap curve 3 ;",
        "unpatch 1 ;", "unpatch all - 5 thru 1 + group 2 ;", "unpatch group 5 - all ;", "1 @ 5 ;", "1 thru 2 @ 5 thru 6 red full ;",
        "all dim from 5 green + 6 blue - 7 ;", "group 1 pan 5 palette 6 tilt from 8 ;", "group 1 + 2 - group 3 home release wheel 5 ;",
        "1 - 2 thru 3 iris 5 thru 6 @ + 7 ;", "1 home ;", "1 release @ - 5 ;", "1 palette 5 ;", "all roll full ;", "1 @ from 5 @ full ;",
        "group 1 = 2 ;", "group 1 = group 2 + 3 thru 4 - all ;", "palette 1 = none ;", "palette 1 = dim 5 ;", "palette 1 = roll 5 red 6 iris 7 ;",
        "sub 1 none ;", "sub 1 adds ;", "sub 1 masters ;", "sub 1 with 2 @ 5 ;", "sub 1 with all - group 2 + 3 thru 4 @ 5 ;", "wave 1 = none ;",
        "wave 1 = saw dim size 5 rate 6 spread 7 on 8 ;", "wave 1 = step roll size 5 rate 6 spread 7 on all - 5 ;",
        "wave 1 = peak pan size 5 rate 6 spread 7 on group 8 + 9 thru 1 ;", "cue 1 ;", "cue 1 up 2 ;",
        "cue 1 down 2 move 3 delay 4 follow 5 link 6 up 7 ;",
        "cue 1 stay loose ;", "cue 1 link 5 stay delay 6 ;", "record 1 ;", "record 1 only ;", "record 1 only up 5 stay ;", "record 1 loose move 5 ;",
        "update ;", "delete 1 ;", "copy 1 to 2 ;", "block 1 ;", "unblock 1 ;", "blind 1 ;", "live ;", "clear ;", "sneak 5 ;", "park 1 @ 2 ;",
        "unpark 1 ;", "unpark all ;", "event 1 = none ;", "event 1 = 5 cue 6 ;"};

    /** Tokens of other kinds, and bytes and words that begin none or are too long. */
    private static final String[] OTHERS = {"5", "0", "9999", "00000", "10000", "abcdefghi", "abcdefghij", "a", "dims", "thr", "#", ".", ",", "A",
        "\t", "\"", "("};

    /** One place in the grammar: where each token leads, and where one may be without a token. */
    private static final class Place {
        private final Map<String, List<Place>> ways = new HashMap<>();
        private final List<Place> free = new ArrayList<>();

        void lead(String token, Place to) {
            ways.computeIfAbsent(token, key -> new ArrayList<>()).add(to);
        }
    }

    private final String[] rule;
    private int at = 0;

    private GrammarTest(String name) {
        String[] found = null;
        for (String[] one : RULES) {
            found = one[0].equals(name) ? one[1].split(" ") : found;
        }
        rule = found;
    }

    /** The end of what the rule's rest, up to a bracket that closes, can be from that place on. */
    private Place choice(Place from) {
        Place end = new Place();
        row(from).free.add(end);
        while (at < rule.length && rule[at].equals("|")) {
            at++;
            row(from).free.add(end);
        }
        return end;
    }

    private Place row(Place from) {
        Place place = from;
        while (at < rule.length && !"|)]}".contains(rule[at])) {
            place = thing(place);
        }
        return place;
    }

    private Place thing(Place from) {
        String word = rule[at];
        at++;
        Place begin = new Place();
        from.free.add(begin);
        if (word.startsWith("\"") || word.equals("N")) {
            Place end = new Place();
            begin.lead(word.replace("\"", ""), end);
            return end;
        }
        if (!"([{".contains(word)) {
            return new GrammarTest(word).choice(begin);
        }
        Place inside = choice(begin);
        at++;
        Place end = new Place();
        inside.free.add(end);
        if (!word.equals("(")) {
            begin.free.add(end);
        }
        if (word.equals("{")) {
            inside.free.add(begin);
        }
        return end;
    }

    public static void main(String[] args) {
        Place start = new Place();
        new GrammarTest("st").choice(start);
        List<String> tokens = tokens();
        CHECKS.same("how many tokens", tokens.size(), 70 + 5 + OTHERS.length);
        for (String statement : STATEMENTS) {
            String[] row = statement.split(" ");
            CHECKS.same("the grammar's own place of " + statement, deadAt(start, row), row.length);
            for (int length = 0; length <= row.length; length++) {
                goOn(start, row, length, tokens);
                ended(row, length);
            }
        }
        CHECKS.finish();
    }

    private static List<String> tokens() {
        Set<String> all = new HashSet<>();
        for (String[] one : RULES) {
            for (String word : one[1].split(" ")) {
                if (word.startsWith("\"")) {
                    all.add(word.replace("\"", ""));
                }
            }
        }
        List<String> tokens = new ArrayList<>(all);
        tokens.sort(null);
        tokens.addAll(List.of(OTHERS));
        return tokens;
    }

    private static Set<Place> reached(Set<Place> places) {
        List<Place> row = new ArrayList<>(places);
        for (int i = 0; i < row.size(); i++) {
            for (Place next : row.get(i).free) {
                if (!row.contains(next)) {
                    row.add(next);
                }
            }
        }
        return new HashSet<>(row);
    }

    private static String kindOf(String token) {
        return token.matches("[0-9]{1,4}") ? "N" : token;
    }

    /** How many tokens are ahead of the first one with which no statement goes on. */
    private static int deadAt(Place start, String[] row) {
        Set<Place> places = reached(Set.of(start));
        for (int i = 0; i < row.length; i++) {
            Set<Place> next = new HashSet<>();
            for (Place place : places) {
                next.addAll(place.ways.getOrDefault(kindOf(row[i]), List.of()));
            }
            if (next.isEmpty() || isRepeated(row, i)) {
                return i;
            }
            places = reached(next);
        }
        return row.length;
    }

    private static String option(String word) {
        return word.equals("stay") ? "follow" : word.equals("loose") ? "link" : word;
    }

    /** A word of times, of limit .. swap, or a parameter of a palette that the statement has already. */
    private static boolean isRepeated(String[] row, int i) {
        boolean once = switch (row[0]) {
            case "patch" -> List.of("limit", "curve", "invert", "swap").contains(row[i]);
            case "palette" -> PARAMETERS.contains("\"" + row[i] + "\"");
            case "cue", "record" -> List.of("up", "down", "move", "delay", "follow", "link", "stay", "loose").contains(row[i]);
            default -> false;
        };
        for (int k = 1; k < i && once; k++) {
            if (option(row[k]).equals(option(row[i]))) {
                return true;
            }
        }
        return false;
    }

    private static int placeOf(String[] row, int length) {
        int place = 0;
        for (int i = 0; i < length; i++) {
            place += row[i].length() + 1;
        }
        return place;
    }

    private static void goOn(Place start, String[] row, int length, List<String> tokens) {
        if (length == row.length) {
            return;
        }
        LightDesk desk = new LightDesk();
        String begun = String.join(" ", List.of(row).subList(0, length)) + (length > 0 ? " " : "");
        for (String token : tokens) {
            String[] longer = new String[length + 1];
            System.arraycopy(row, 0, longer, 0, length);
            longer[length] = token;
            boolean dies = deadAt(start, longer) == length;
            // Nothing goes on with the byte behind it, so fault 1 is at one or the other.
            String text = begun + token + " $";
            Checks.text(desk, text);
            if (token.equals(";")) {
                boolean here = desk.fault(0) == 1 && desk.fault(1) == placeOf(row, length);
                CHECKS.same("fault 1 at the ; of " + text, here, dies);
            } else {
                CHECKS.same("fault of " + text, desk.fault(0), 1);
                CHECKS.same("place of " + text, desk.fault(1), placeOf(row, length) + (dies ? 0 : token.length() + 1));
            }
        }
    }

    /** A statement that ends ahead of its ; has fault 1 at the tape's length, blanks behind it counted. */
    private static void ended(String[] row, int length) {
        if (length == 0 || length == row.length) {
            return;
        }
        LightDesk desk = new LightDesk();
        String begun = String.join(" ", List.of(row).subList(0, length));
        for (String end : new String[] {"", " ", "\n\n"}) {
            CHECKS.same("done of " + begun, Checks.text(desk, begun + end), 0);
            CHECKS.same("fault of " + begun, desk.fault(0), 1);
            CHECKS.same("place of " + begun, desk.fault(1), begun.length() + end.length());
        }
    }
}
