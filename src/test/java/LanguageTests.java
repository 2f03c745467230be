import java.lang.reflect.Constructor;
import java.lang.reflect.Field;
import java.lang.reflect.Method;
import java.lang.reflect.Modifier;
import java.nio.file.Files;
import java.nio.file.Path;
import java.util.Arrays;
import java.util.HashMap;
import java.util.HashSet;
import java.util.Map;
import java.util.Set;
import java.util.TreeSet;
import java.util.regex.Matcher;
import java.util.regex.Pattern;

/** The rules of ../shared/LANGUAGE.md, as far as they can be seen in the text and the compiled face. */
public final class LanguageTests {
    private static final Due due = new Due("LanguageTests");
    private static final String FACE = "line4 drop1 move4 told2 taken2 cross3 point2 order3 slab2 cell2 face2 where3 on3"
            + " hops2 count1 without1 most1 drawn2 chance4 tells3 film2 image0 back0 sheet3 put3 copy5 load4";

    private static void face() {
        Class<?> face = FacesOfLines.class;
        due.holds("public and final", face.getModifiers() == (Modifier.PUBLIC | Modifier.FINAL));
        Set<String> methods = new TreeSet<>();
        for (Method m : face.getDeclaredMethods()) {
            if (Modifier.isPublic(m.getModifiers())) {
                methods.add(m.getName() + m.getParameterCount());
                due.holds(m + " answers an int", m.getReturnType() == int.class);
                due.holds(m + " takes ints", Arrays.stream(m.getParameterTypes()).allMatch(t -> t == int.class));
            } else {
                due.holds(m + " is private", Modifier.isPrivate(m.getModifiers()));
            }
        }
        due.holds("the methods are " + methods, methods.equals(new TreeSet<>(Arrays.asList(FACE.split(" ")))));
        Set<String> constants = new TreeSet<>();
        for (Field f : face.getDeclaredFields()) {
            if (Modifier.isPrivate(f.getModifiers())) {
                continue;
            }
            constants.add(f.getName());
            due.holds(f + " is a constant", f.getModifiers() == (Modifier.PUBLIC | Modifier.STATIC | Modifier.FINAL));
        }
        due.holds("the constants", constants.equals(Set.of("NONE", "BAD", "STATE", "FULL")));
        Constructor<?>[] constructors = face.getDeclaredConstructors();
        due.holds("one public constructor", constructors.length == 1
                && Modifier.isPublic(constructors[0].getModifiers()) && constructors[0].getParameterCount() == 0);
    }

    private static void classes() {
        Set<String> names = new HashSet<>();
        for (String name : FACE.split(" ")) {
            names.add(name.substring(0, name.length() - 1));
        }
        Class<?>[] inside = FacesOfLines.class.getDeclaredClasses();
        due.holds("some twelve classes", inside.length <= 11);
        for (Class<?> c : inside) {
            due.holds(c + " is static", Modifier.isStatic(c.getModifiers()));
            due.holds(c + " holds no class", c.getDeclaredClasses().length == 0);
            for (Method m : c.getDeclaredMethods()) {
                due.holds(m + " bears no public one's name", !names.contains(m.getName()));
                due.holds(m + " takes at most seven", m.getParameterCount() <= 7);
            }
            fields(c);
        }
        for (Method m : FacesOfLines.class.getDeclaredMethods()) {
            due.holds(m + " bears a public one's name", !Modifier.isPrivate(m.getModifiers())
                    || !names.contains(m.getName()));
            due.holds(m + " takes at most seven", m.getParameterCount() <= 7);
        }
        fields(FacesOfLines.class);
    }

    private static void fields(Class<?> c) {
        int own = 0;
        for (Field f : c.getDeclaredFields()) {
            if (Modifier.isStatic(f.getModifiers())) {
                due.holds(f + " is a constant", Modifier.isFinal(f.getModifiers()) && f.getType() == int.class);
            } else {
                own++;
            }
        }
        due.holds(c + " has some twenty fields", own <= 20);
    }

    private static void text() throws Exception {
        String text = Files.readString(Path.of("src/main/java/FacesOfLines.java"));
        due.holds("signs 1 to 127", text.chars().allMatch(c -> c >= 1 && c <= 127));
        String code = text.replaceAll("(?s)/\\*.*?\\*/", "").replaceAll("//[^\n]*", "");
        String[] ruledOut = {"package", "import", "throw", "throws", "try", "catch", "finally", "synchronized", "assert",
            "float", "double", "equals", "hashCode", "toString", "Thread", "Random", "native", "volatile", "transient",
            "var", "yield", "Object", "Exception"};
        for (String word : ruledOut) {
            due.holds("no " + word, !Pattern.compile("\\b" + word + "\\b").matcher(code).find());
        }
        due.holds("no lambda, no method reference", !code.contains("->") && !code.contains("::"));
        due.holds("no texts", code.indexOf('"') < 0);
        due.holds("nothing exact", !code.contains("Exact"));
        Matcher library = Pattern.compile("\\b(System|Math|Long|Integer|Arrays|String)\\.(\\w+)").matcher(code);
        Set<String> free = Set.of("System.arraycopy", "Math.min", "Math.max", "Long.bitCount");
        while (library.find()) {
            due.holds(library.group() + " is free to use", free.contains(library.group()));
        }
        due.holds("no array of objects but in order", !Pattern.compile("new [A-Z]\\w*\\[").matcher(code).find());
        Matcher makes = Pattern.compile("\\n( +)[^\\n]*\\bnew \\w").matcher(code);
        while (makes.find()) {
            due.holds("only fields make anything: " + makes.group().trim(), makes.group(1).length() <= 8
                    && makes.group().contains("private final"));
        }
        lengths(code);
    }

    private static void lengths(String code) {
        String[] rows = code.split("\n");
        Map<Integer, Integer> begun = new HashMap<>();
        for (int i = 0; i < rows.length; i++) {
            String row = rows[i];
            int margin = row.length() - row.stripLeading().length();
            if (row.endsWith("{") && row.contains("(") && (margin == 4 || margin == 8)
                    && row.matches("\\s*(public |private |static |\\w).*") && !row.matches("\\s*(for|if|while|switch|do)\\b.*")) {
                begun.put(margin, i);
            } else if (row.strip().equals("}") && begun.containsKey(margin)) {
                int from = begun.remove(margin);
                due.holds("some sixty lines: " + rows[from].strip(), i - from <= 60);
            }
        }
    }

    public static void main(String[] args) throws Exception {
        face();
        classes();
        text();
        due.end();
    }
}
