import java.lang.reflect.Field;
import java.lang.reflect.Method;
import java.lang.reflect.Modifier;
import java.nio.file.Files;
import java.nio.file.Path;
import java.util.Arrays;
import java.util.HashSet;
import java.util.List;
import java.util.Set;
import java.util.TreeSet;
import java.util.regex.Matcher;
import java.util.regex.Pattern;

/** The public face of the document, and the rules of LANGUAGE.md that can be seen without running. */
public final class FaceTest {
    private static final String FACE = "feed(int,int,int,int,int) kingdom(int) fault(int) road(int,int) from(int) "
            + "close(int,boolean) when(int,int) summer(int) comes(int) of(int,int) slip(int,int,int) go(int,int) "
            + "toss(int) rest(int,int) give(int,int,int) change(int,int) judge(int,int,int) perform(int,int) "
            + "treasury(int) owes(int) lapse() blocked(int) homeward(int,int) safe(int) needs(int,int) partner(int) "
            + "cheapest(int,int) price(int,int) gain(int,int,int) through(int,int,int,int) journeys(int,int) "
            + "forged(int) journey(int,int,int,int) lane(int,int,int,int) box(int) cutOff(int) ledger(int,int) "
            + "meet(int,int,int,int,int) fair(int,int,int) numbers(int,int,int) write(int,int,long) copy(int,int) "
            + "image(int) restore(int) count(int)";
    private static final String[] FORBIDDEN = {"throw", "try", "catch", "finally", "synchronized", "assert", "volatile",
        "transient", "native", "protected", "record", "->", "::", "Exact(", "hashCode", "toString()", "Thread", "File",
        "Random", "currentTime", "nanoTime", "System.out", "Object", "?>", "@"};

    private static final Check C = new Check("FaceTest");

    public static void main(String[] args) throws Exception {
        face();
        insideClasses();
        source();
        C.end();
    }

    private static void face() throws Exception {
        Class<?> k = TollsBack.class;
        C.holds("public and final", Modifier.isPublic(k.getModifiers()) && Modifier.isFinal(k.getModifiers()));
        C.due("one constructor", k.getDeclaredConstructors().length, 1);
        C.holds("a public one", Modifier.isPublic(k.getDeclaredConstructor().getModifiers()));
        Set<String> methods = new TreeSet<>();
        for (Method m : k.getDeclaredMethods()) {
            if (Modifier.isPublic(m.getModifiers())) {
                String types = String.join(",", Arrays.stream(m.getParameterTypes()).map(Class::getName).toList());
                methods.add(m.getName() + "(" + types + ")");
                C.holds(m + " answers as told", m.getReturnType() == (m.getName().equals("write") ? long.class : int.class));
                C.holds(m + " is not static", !Modifier.isStatic(m.getModifiers()));
            } else {
                C.holds(m + " is private", Modifier.isPrivate(m.getModifiers()));
            }
        }
        Set<String> due = new TreeSet<>(List.of(FACE.split(" ")));
        C.due("promises 2 to 46", due.size(), 45);
        C.holds("the methods are " + methods, methods.equals(due));
        for (Field f : k.getDeclaredFields()) {
            boolean none = f.getName().equals("NONE");
            C.holds(f + " is private", Modifier.isPrivate(f.getModifiers()) != none);
        }
        Field none = k.getDeclaredField("NONE");
        int mods = none.getModifiers();
        C.holds("NONE", Modifier.isPublic(mods) && Modifier.isStatic(mods) && Modifier.isFinal(mods));
        C.due("NONE is", none.getInt(null), -1);
    }

    private static void insideClasses() {
        Set<String> names = new HashSet<>();
        for (String signature : FACE.split(" ")) {
            names.add(signature.substring(0, signature.indexOf('(')));
        }
        Class<?>[] inside = TollsBack.class.getDeclaredClasses();
        C.holds("at most some twelve classes", inside.length <= 12);
        for (Class<?> k : inside) {
            C.holds(k + " is static", Modifier.isStatic(k.getModifiers()));
            C.holds(k + " is private", Modifier.isPrivate(k.getModifiers()));
            C.due(k + " has no class inside", k.getDeclaredClasses().length, 0);
            for (Method m : k.getDeclaredMethods()) {
                C.holds(m + " has a name of its own", !names.contains(m.getName()));
                C.holds(m + " takes at most seven", m.getParameterCount() <= 7);
            }
            fields(k);
        }
        fields(TollsBack.class);
    }

    private static void fields(Class<?> k) {
        int held = 0;
        for (Field f : k.getDeclaredFields()) {
            if (Modifier.isStatic(f.getModifiers())) {
                C.holds(f + " is final", Modifier.isFinal(f.getModifiers()));
            } else {
                held++;
            }
        }
        C.holds(k + " has at most twenty fields", held <= 20);
    }

    private static void source() throws Exception {
        String text = Files.readString(Path.of("src/main/java/TollsBack.java"));
        C.holds("signs 10 and 32 to 126 alone", text.chars().allMatch(b -> b == 10 || b >= 32 && b < 127));
        String code = Pattern.compile("/\\*.*?\\*/|//[^\n]*", Pattern.DOTALL).matcher(text)
                .replaceAll(m -> m.group().replaceAll("[^\n]", " "));
        code = code.replaceAll("\"[^\"\n]*\"", "\"\"");
        for (String word : FORBIDDEN) {
            boolean isWord = Character.isLetter(word.charAt(0)) && Character.isLetter(word.charAt(word.length() - 1));
            Pattern p = Pattern.compile(isWord ? "\\b" + word + "\\b" : Pattern.quote(word));
            C.holds("no " + word, !p.matcher(code).find());
        }
        Matcher imports = Pattern.compile("import [^;]*;").matcher(code);
        while (imports.find()) {
            C.holds(imports.group(), imports.group().equals("import java.util.Arrays;"));
        }
        C.holds("no package", !Pattern.compile("\\bpackage\\b").matcher(code).find());
        methodLengths(code);
    }

    /** A method begins with a line that ends in ") {" one or two levels in, and ends with its brace. */
    private static void methodLengths(String code) {
        String[] lines = code.split("\n");
        for (int i = 0; i < lines.length; i++) {
            Matcher head = Pattern.compile("^( {4}| {8})(?!if|for|while|switch|else)\\w.*\\) \\{$").matcher(lines[i]);
            if (head.matches()) {
                int end = i;
                while (!lines[end].equals(head.group(1) + "}")) {
                    end++;
                }
                C.holds("short: " + lines[i].trim(), end - i < 60);
            }
        }
    }
}
