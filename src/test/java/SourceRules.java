import java.lang.reflect.Array;
import java.lang.reflect.Field;
import java.lang.reflect.Method;
import java.lang.reflect.Modifier;
import java.nio.file.Files;
import java.nio.file.Path;
import java.util.Arrays;
import java.util.IdentityHashMap;
import java.util.Map;
import java.util.Set;
import java.util.TreeSet;
import java.util.regex.Matcher;
import java.util.regex.Pattern;

/** The rules of LANGUAGE.md that can be seen from the source's words and the class's members. */
public final class SourceRules {
    private static final Check C = new Check();
    private static final String FACE = "status:int top:long bottom:long tray:boolean:int:int:int write:boolean:int:int:long "
        + "read:long:int:int pour:boolean:int:int:int:int:int feed:int:int:int:int:int:int land:int:int decades:int:int "
        + "fault:int:int many:int:int deed:int:int:int payer:int:int:int near:int:int:int part:int:int:int copyTax:int:int "
        + "step:int:int:int shrink:int:int:int year:int:int price:boolean:int:int:int hire:boolean:int:int forgive:int:int "
        + "come:int:int dream:int:int:int:int rule:boolean:int:int plan:int:int:int planSet:int:int:int lure:int:int:int:int "
        + "owesIn:int:int fits:int:int:int fitsAt:int:int:int:int sure:int:int:int ask:int:int:int rounds:int:int crew:int:int "
        + "split:boolean:int:int help:int helped:int:int game:int:int:int:int moveOf:int:int:int:int luck:boolean:int:int "
        + "bears:boolean:int live:int:int lived:int:int mean:boolean:int:int mark:int back:int";

    public static void main(String[] args) throws Exception {
        String source = Files.readString(Path.of(System.getProperty("source", "src/main/java/AlmostTax.java")));
        face();
        members();
        words(source);
        lengths(source);
        nothingMadeBehindTheConstructor(source);
        roomOfOneObject();
        C.finish();
    }

    /** Rule 1. */
    private static void face() {
        Set<String> want = new TreeSet<>(Arrays.asList(FACE.split(" ")));
        Set<String> got = new TreeSet<>();
        for (Method m : AlmostTax.class.getDeclaredMethods()) {
            if (!Modifier.isPrivate(m.getModifiers())) {
                StringBuilder one = new StringBuilder(m.getName()).append(':').append(m.getReturnType());
                for (Class<?> t : m.getParameterTypes()) {
                    one.append(':').append(t);
                }
                got.add(one.toString());
                C.due("public " + m, Modifier.isPublic(m.getModifiers()) && !Modifier.isStatic(m.getModifiers()), true);
            }
        }
        if (!got.equals(want)) {
            System.out.println("the face is " + got);
        }
        C.due("the face", got.equals(want), true);
        C.due("the class is public and final", AlmostTax.class.getModifiers(), Modifier.PUBLIC | Modifier.FINAL);
        C.due("one constructor", AlmostTax.class.getDeclaredConstructors().length, 1);
    }

    /** Rules 1, 2, 5, 11. */
    private static void members() {
        Set<String> publicNames = new TreeSet<>();
        for (Method m : AlmostTax.class.getMethods()) {
            publicNames.add(m.getName());
        }
        Class<?>[] inside = AlmostTax.class.getDeclaredClasses();
        C.due("at most twelve classes, but these are " + inside.length, inside.length <= 11, true);
        membersOf(AlmostTax.class, publicNames);
        for (Class<?> one : inside) {
            C.due(one + " is static", Modifier.isStatic(one.getModifiers()) && !Modifier.isPublic(one.getModifiers()), true);
            membersOf(one, publicNames);
        }
    }

    private static void membersOf(Class<?> one, Set<String> publicNames) {
        int fields = 0;
        for (Field f : one.getDeclaredFields()) {
            boolean constant = Modifier.isStatic(f.getModifiers());
            fields += constant ? 0 : 1;
            C.due(f + " is final", !constant || Modifier.isFinal(f.getModifiers()), true);
            if (one == AlmostTax.class) {
                C.due(f + " is private", Modifier.isPrivate(f.getModifiers()) || f.getName().equals("NONE"), true);
            }
        }
        C.due(one + " has at most twenty fields, but has " + fields, fields <= 20, true);
        for (Method m : one.getDeclaredMethods()) {
            boolean ofFace = one == AlmostTax.class && Modifier.isPublic(m.getModifiers());
            C.due(m + " bears no public name", ofFace || !publicNames.contains(m.getName()), true);
            C.due(m + " has at most seven parameters", m.getParameterCount() <= 7, true);
        }
    }

    /** Rules 2, 4, 5, 6, 13. */
    private static void words(String source) {
        String code = source.replaceAll("(?s)/\\*.*?\\*/", "").replaceAll("//[^\n]*", "").replaceAll("\"[^\"\n]*\"", "\"\"");
        String[] never = {"\\bthrows?\\b", "\\btry\\b", "\\bcatch\\b", "\\bfinally\\b", "\\bsynchronized\\b", "\\bassert\\b", "->",
            "::", "\\bpackage\\b", "\\bstatic\\s*\\{", "\\bprotected\\b", "Exact\\b", "\\bRandom\\b", "\\bSystem\\.(?!arraycopy)",
            "\\bThread\\b", "\"\"\\s*\\+", "\\+\\s*\"\"", "@", "\\bvar\\b", "\\bhashCode\\b", "\\btoString\\b", "\\bclone\\b"};
        for (String word : never) {
            Matcher m = Pattern.compile(word).matcher(code);
            C.due("the source has no " + word, m.find(), false);
        }
        Matcher imports = Pattern.compile("import\\s+([^;]+);").matcher(code);
        while (imports.find()) {
            C.due("import " + imports.group(1), Set.of("java.util.Arrays").contains(imports.group(1)), true);
        }
        for (int i = 0; i < source.length(); i++) {
            if (source.charAt(i) > 126) {
                C.due("a sign beyond 126 at " + i, false, true);
            }
        }
    }

    /** Rule 11: a method begins at a line that ends in "{" at the depth of members, and ends at its "}". */
    private static void lengths(String source) {
        String[] lines = source.split("\n");
        for (int i = 0; i < lines.length; i++) {
            Matcher m = Pattern.compile("^( {4}| {8})(\\S.*\\)) \\{$").matcher(lines[i]);
            if (m.matches() && !m.group(2).matches("(if|for|while|switch)\\b.*")) {
                int end = i;
                while (end < lines.length && !lines[end].equals(m.group(1) + "}")) {
                    end++;
                }
                C.due(m.group(2) + " has " + (end - i + 1) + " lines", end - i + 1 <= 60, true);
            }
        }
    }

    /** All is made by fields' initialisers, and the rows of trays and marks by the constructor. */
    private static void nothingMadeBehindTheConstructor(String source) {
        for (String line : source.split("\n")) {
            boolean makes = line.matches(".*\\bnew\\b (\\w+\\(|\\w+\\[).*") && !line.trim().matches("(//|/?\\*).*");
            boolean field = line.matches("( {4}| {8})(private )?(final )?[\\w\\[\\]]+ \\w+ = new .*;");
            boolean row = line.matches(" {12}(trays|marked)\\[i\\] = new \\w+\\(\\);");
            C.due("made where it is kept: " + line.trim(), !makes || field || row, true);
        }
    }

    /** The page's room (600,000 objects, 7,300,000 fields and elements) is for all objects of a run. */
    private static void roomOfOneObject() throws Exception {
        Map<Object, Boolean> seen = new IdentityHashMap<>();
        long cells = cellsOf(new AlmostTax(), seen);
        C.due("an object has at most 200 inside, but has " + seen.size(), seen.size() <= 200, true);
        C.due("an object has at most 8,000 fields and elements, but has " + cells, cells <= 8000, true);
    }

    private static long cellsOf(Object one, Map<Object, Boolean> seen) throws Exception {
        if (one == null || seen.put(one, true) != null) {
            return 0;
        }
        long cells = 0;
        if (one.getClass().isArray()) {
            cells += Array.getLength(one);
            for (int i = 0; !one.getClass().getComponentType().isPrimitive() && i < Array.getLength(one); i++) {
                cells += cellsOf(Array.get(one, i), seen);
            }
            return cells;
        }
        for (Field f : one.getClass().getDeclaredFields()) {
            if (!Modifier.isStatic(f.getModifiers())) {
                cells++;
                f.setAccessible(true);
                cells += f.getType().isPrimitive() ? 0 : cellsOf(f.get(one), seen);
            }
        }
        return cells;
    }
}
