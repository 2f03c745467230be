import java.nio.file.Files;
import java.nio.file.Path;
import java.util.Set;
import java.util.TreeSet;
import java.util.regex.Matcher;
import java.util.regex.Pattern;

/** README.md names every call as the class does, and its example answers what stands behind each call. */
public final class ReadmeTests {
    private static final Due due = new Due("ReadmeTests");
    private static final int CALLS = 27;

    private static Set<String> callsOfTheClass(String text) {
        Set<String> calls = new TreeSet<>();
        Matcher face = Pattern.compile("public int (\\w+)\\(([^)]*)\\) \\{").matcher(text);
        while (face.find()) {
            calls.add(face.group(1) + "(" + face.group(2).replace("int ", "") + ")");
        }
        return calls;
    }

    private static Set<String> callsOfTheTables(String readme) {
        Set<String> calls = new TreeSet<>();
        Matcher row = Pattern.compile("(?m)^\\| `(\\w+\\([^)]*\\))` \\|").matcher(readme);
        while (row.find()) {
            calls.add(row.group(1));
        }
        return calls;
    }

    private static int callsOfTheExample(String readme) {
        FacesOfLines f = new FacesOfLines();
        int calls = 0;
        Matcher row = Pattern.compile("(?m)^ +f\\.(\\w+)\\(([^)]*)\\); +// (-?\\d+)\\b").matcher(readme);
        while (row.find()) {
            String[] told = row.group(2).isEmpty() ? new String[0] : row.group(2).split(", ");
            int[] a = new int[told.length];
            for (int i = 0; i < a.length; i++) {
                a[i] = Integer.parseInt(told[i]);
            }
            due.is("the example: " + Calls.text(row.group(1), a), Calls.ask(f, row.group(1), a),
                    Integer.parseInt(row.group(3)));
            calls++;
        }
        return calls;
    }

    public static void main(String[] args) throws Exception {
        String readme = Files.readString(Path.of("README.md"));
        Set<String> face = callsOfTheClass(Files.readString(Path.of("src/main/java/FacesOfLines.java")));
        due.is("calls of the class", face.size(), CALLS);
        due.holds("the tables have them all: " + callsOfTheTables(readme), callsOfTheTables(readme).equals(face));
        int begun = readme.split("\n +f\\.", -1).length - 1;
        due.is("calls of the example that tell their answer", callsOfTheExample(readme), begun);
        due.holds("there is an example", begun > 0);
        for (String refusal : new String[] {"| -2 |", "| -3 |", "| -4 |", "| -11 |", "| -12 |", "| -13 |", "| -14 |"}) {
            due.holds("it tells of " + refusal, readme.contains(refusal));
        }
        due.end();
    }
}
