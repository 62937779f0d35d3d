import java.lang.reflect.Constructor;
import java.lang.reflect.Field;
import java.lang.reflect.Method;
import java.lang.reflect.Modifier;
import java.nio.file.Files;
import java.nio.file.Path;
import java.util.Set;
import java.util.TreeSet;
import java.util.regex.Matcher;
import java.util.regex.Pattern;

/** The public face as the document has it, and those rules of LANGUAGE.md that a look at the source can tell. */
public final class FaceTest {
    private static final Check check = new Check();

    public static void main(String[] args) throws Exception {
        String doc = Files.readString(Path.of("../shared/DOC.md"));
        String source = Files.readString(Path.of("src/main/java/IslandCall.java"));
        face(doc);
        rules(source);
        check.end();
    }

    private static void face(String doc) {
        String face = doc.substring(doc.indexOf("public final class IslandCall {"), doc.indexOf("## Terms"));
        Set<String> told = new TreeSet<>();
        Matcher m = Pattern.compile("public (\\w+) (\\w+)\\(([^)]*)\\);").matcher(face);
        while (m.find()) {
            String kinds = m.group(3).replaceAll("(\\w+) \\w+", "$1").replace(" ", "");
            told.add(m.group(1) + " " + m.group(2) + "(" + kinds + ")");
        }
        check.due("methods in the document", told.size(), 59);
        Set<String> found = new TreeSet<>();
        Set<String> open = new TreeSet<>();
        for (Method method : IslandCall.class.getDeclaredMethods()) {
            if (Modifier.isPublic(method.getModifiers())) {
                found.add(shape(method));
                open.add(method.getName());
            }
        }
        check.due("the methods are the document's " + told + " " + found, told.equals(found), true);
        for (Method method : IslandCall.class.getDeclaredMethods()) {
            boolean isPublic = Modifier.isPublic(method.getModifiers());
            boolean isPrivate = Modifier.isPrivate(method.getModifiers());
            check.due("open or private: " + method, isPublic || isPrivate, true);
            check.due("a private name of its own: " + method, isPublic || !open.contains(method.getName()), true);
        }
        for (Class<?> inside : IslandCall.class.getDeclaredClasses()) {
            int wanted = Modifier.PRIVATE | Modifier.STATIC | Modifier.FINAL;
            check.due("rule 2: " + inside, inside.getModifiers() & wanted, wanted);
            check.due("rule 11: fields of " + inside, inside.getDeclaredFields().length <= 25, true);
            for (Method method : inside.getDeclaredMethods()) {
                check.due("a name of its own: " + method, open.contains(method.getName()), false);
            }
        }
        for (Field field : IslandCall.class.getDeclaredFields()) {
            boolean isNone = field.getName().equals("NONE");
            check.due("field " + field, Modifier.isPublic(field.getModifiers()) == isNone
                    && Modifier.isPrivate(field.getModifiers()) != isNone, true);
        }
        Constructor<?>[] makers = IslandCall.class.getDeclaredConstructors();
        check.due("constructors", makers.length, 1);
        check.due("it takes nothing", makers[0].getParameterCount(), 0);
        check.due("public final", IslandCall.class.getModifiers(), Modifier.PUBLIC | Modifier.FINAL);
        check.due("NONE", IslandCall.NONE, -1);
    }

    private static String shape(Method method) {
        StringBuilder b = new StringBuilder();
        b.append(method.getReturnType().getSimpleName()).append(' ').append(method.getName()).append('(');
        String comma = "";
        for (Class<?> kind : method.getParameterTypes()) {
            b.append(comma).append(kind.getSimpleName());
            comma = ",";
        }
        return b.append(')').toString();
    }

    private static void rules(String source) {
        String bare = source.replaceAll("(?s)/\\*.*?\\*/", "").replaceAll("//[^\n]*", "").replaceAll("\"[^\"]*\"", "\"\"");
        for (String word : new String[] {"throw", "throws", "try", "catch", "finally", "synchronized", "assert", "import",
                "package", "protected", "Exact", "->", "::", "native", "volatile", "transient"}) {
            String asked = word.matches("\\w+") ? "\\b" + word + "\\b" : Pattern.quote(word);
            check.due("rule 6 and others: " + word, Pattern.compile(asked).matcher(bare).find(), false);
        }
        Matcher calls = Pattern.compile("\\b(Integer|Long|Math|System|String|Arrays)\\.(\\w+)").matcher(bare);
        Set<String> fine = Set.of("bitCount", "max", "min", "arraycopy");
        while (calls.find()) {
            check.due("rule 4: " + calls.group(), fine.contains(calls.group(2)), true);
        }
        check.due("rule 3: signs 1 to 127", source.chars().allMatch(c -> c > 0 && c < 128), true);
        check.due("rule 11: classes", bare.split("\\bclass\\b").length - 1 <= 12, true);
        methodsAreShort(source);
        roomIsMadeInConstructors(bare);
    }

    private static void methodsAreShort(String source) {
        String[] lines = source.split("\n");
        int begin = -1;
        for (int i = 0; i < lines.length; i++) {
            if (lines[i].matches("( {4}| {8})(public|private|static|boolean|int|long|void|[A-Z]\\w*\\().*\\) \\{")) {
                begin = i;
                int commas = lines[i].replaceAll("[^,]", "").length();
                check.due("rule 11: parameters of " + lines[i].trim(), commas < 7, true);
            }
            if (begin >= 0 && lines[i].matches("( {4}| {8})\\}")) {
                check.due("rule 11: length of " + lines[begin].trim(), i - begin <= 60, true);
                begin = -1;
            }
        }
    }

    /** All rows are fields, so that a run of calls makes nothing beyond its objects. */
    private static void roomIsMadeInConstructors(String bare) {
        for (String line : bare.split("\n")) {
            if (line.contains("new ")) {
                boolean field = line.matches(" +(private )?final .*= new .*;");
                boolean kept = line.matches(" +kept(Ships|Plans)\\[i\\] = new .*;");
                check.due("rule 12: " + line.trim(), field || kept, true);
            }
        }
    }
}
