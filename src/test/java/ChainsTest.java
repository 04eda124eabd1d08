import java.io.PrintWriter;
import java.io.StringWriter;
import java.util.ArrayList;
import java.util.List;
import java.util.Map;
import java.util.Optional;
import java.util.TreeMap;
import java.util.TreeSet;
import java.util.regex.Matcher;
import java.util.regex.Pattern;
import java.util.spi.ToolProvider;

/** Rules 8 and 11 of LANGUAGE.md: which method calls which, told by the compiled class: none calls itself, and chains are eight long at most. */
public final class ChainsTest {
    private static final Checks CHECKS = new Checks("ChainsTest");
    private static final int LONGEST = 8;
    private static final Pattern CLASS = Pattern.compile("^(?:\\w+ )*class ([\\w$]+).*\\{$");
    private static final Pattern METHOD = Pattern.compile("^  (?:[\\w$.\\[\\]]+ )*([\\w$]+)\\(.*\\);$");
    private static final Pattern CALL = Pattern.compile("// (?:Interface)?Method (?:(LightDesk[\\w$]*)\\.)?\"?([\\w$<>]+)\"?:");

    private final Map<String, TreeSet<String>> calls = new TreeMap<>();
    private final Map<String, Integer> lengths = new TreeMap<>();

    public static void main(String[] args) {
        Optional<ToolProvider> teller = ToolProvider.findFirst("javap");
        if (teller.isPresent()) {
            new ChainsTest().look(told(teller.get()));
        } else {
            System.out.println("ChainsTest: this Java has no javap, so nothing is looked at");
        }
        CHECKS.finish();
    }

    private static String told(ToolProvider teller) {
        List<String> arguments = new ArrayList<>(List.of("-c", "-p", "-cp", System.getProperty("java.class.path"), "LightDesk"));
        for (Class<?> inside : LightDesk.class.getDeclaredClasses()) {
            arguments.add(inside.getName());
        }
        StringWriter text = new StringWriter();
        PrintWriter writer = new PrintWriter(text);
        CHECKS.same("javap", teller.run(writer, writer, arguments.toArray(new String[0])), 0);
        return text.toString();
    }

    private void look(String text) {
        String owner = "";
        String method = "";
        for (String line : text.split("\n")) {
            Matcher begun = CLASS.matcher(line);
            Matcher opened = METHOD.matcher(line);
            Matcher called = CALL.matcher(line);
            if (begun.matches()) {
                owner = begun.group(1);
            } else if (opened.matches()) {
                method = owner + "." + (opened.group(1).equals(owner) ? "<init>" : opened.group(1));
                calls.putIfAbsent(method, new TreeSet<>());
            } else if (called.find()) {
                calls.get(method).add((called.group(1) == null ? owner : called.group(1)) + "." + called.group(2));
            }
        }
        CHECKS.same("many methods", calls.size() > 100, true);
        for (String each : calls.keySet()) {
            int length = lengthOf(each, each);
            CHECKS.same("chains of " + each + " are short: " + length, length <= LONGEST, true);
        }
    }

    private int lengthOf(String method, String chain) {
        if (lengths.containsKey(method)) {
            return lengths.get(method);
        }
        int longest = 0;
        for (String called : calls.get(method)) {
            boolean again = (" " + chain + " ").contains(" " + called + " ");
            CHECKS.same(method + " calls one that calls it, " + called, again, false);
            if (calls.containsKey(called) && !again) {
                longest = Math.max(longest, lengthOf(called, chain + " " + called));
            }
        }
        lengths.put(method, longest + 1);
        return longest + 1;
    }
}
