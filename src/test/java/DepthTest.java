import java.io.PrintWriter;
import java.io.StringWriter;
import java.nio.file.Path;
import java.util.ArrayDeque;
import java.util.ArrayList;
import java.util.HashMap;
import java.util.HashSet;
import java.util.List;
import java.util.Map;
import java.util.Set;
import java.util.TreeMap;
import java.util.TreeSet;
import java.util.regex.Matcher;
import java.util.regex.Pattern;
import java.util.spi.ToolProvider;

/** Rule 11 of LANGUAGE.md: calls that are no recursion go at most eight deep. It reads the compiled class. */
final class DepthTest {
    private static final Check check = new Check("DepthTest");
    private static final int DEEPEST = 8;
    private static final Pattern HEAD = Pattern.compile("^  \\S.*?([\\w$]+)\\(.*\\);$");
    private static final Pattern CALL = Pattern.compile("// Method (?:([\\w$/]+)\\.)?\"?([\\w<>]+)\"?:");

    /** By method, the methods of the program that it calls. */
    private final Map<String, Set<String>> calls = new TreeMap<>();
    private final Map<String, List<String>> longest = new HashMap<>();

    public static void main(String[] args) throws Exception {
        DepthTest one = new DepthTest();
        one.readAll();
        check.due(0, "methods are found", one.calls.size() > 48, true);
        for (String method : one.calls.keySet()) {
            List<String> chain = one.longestFrom(method);
            check.due(0, "the chain " + chain + " is at most " + DEEPEST + " deep", chain.size() <= DEEPEST, true);
        }
        check.finish();
    }

    private void readAll() throws Exception {
        List<Class<?>> classes = new ArrayList<>(List.of(ItalicsLean.class.getDeclaredClasses()));
        classes.add(ItalicsLean.class);
        Path at = Path.of(ItalicsLean.class.getProtectionDomain().getCodeSource().getLocation().toURI());
        ToolProvider javap = ToolProvider.findFirst("javap").orElseThrow();
        for (Class<?> one : classes) {
            StringWriter out = new StringWriter();
            PrintWriter to = new PrintWriter(out, true);
            javap.run(to, to, "-c", "-p", at.resolve(one.getName() + ".class").toString());
            read(one.getName(), out.toString());
        }
    }

    private void read(String name, String listing) {
        String current = null;
        for (String line : listing.split("\\R")) {
            Matcher head = HEAD.matcher(line);
            if (head.find()) {
                current = name + "." + (head.group(1).equals(name) ? "<init>" : head.group(1));
                calls.putIfAbsent(current, new TreeSet<>());
            }
            Matcher call = CALL.matcher(line);
            if (current != null && call.find()) {
                String of = call.group(1) == null ? name : call.group(1);
                if (of.startsWith("ItalicsLean")) {
                    calls.get(current).add(of + "." + call.group(2));
                }
            }
        }
    }

    /** The longest chain from a method on; methods that come back to one another count as one. */
    private List<String> longestFrom(String method) {
        List<String> known = longest.get(method);
        if (known != null) {
            return known;
        }
        Set<String> ring = ringOf(method);
        List<String> best = List.of();
        for (String member : ring) {
            for (String next : calls.getOrDefault(member, Set.of())) {
                if (!ring.contains(next) && longestFrom(next).size() > best.size()) {
                    best = longestFrom(next);
                }
            }
        }
        List<String> chain = new ArrayList<>();
        chain.add(ring.size() == 1 ? method : "those around " + method);
        chain.addAll(best);
        longest.put(method, chain);
        return chain;
    }

    /** The method and all those that it reaches and that reach it. */
    private Set<String> ringOf(String method) {
        Set<String> ring = new HashSet<>();
        ring.add(method);
        for (String other : reached(method)) {
            if (reached(other).contains(method)) {
                ring.add(other);
            }
        }
        return ring;
    }

    private Set<String> reached(String method) {
        Set<String> seen = new HashSet<>();
        ArrayDeque<String> open = new ArrayDeque<>(calls.getOrDefault(method, Set.of()));
        while (!open.isEmpty()) {
            String next = open.remove();
            if (seen.add(next)) {
                open.addAll(calls.getOrDefault(next, Set.of()));
            }
        }
        return seen;
    }
}
