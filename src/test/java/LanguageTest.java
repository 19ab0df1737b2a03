import java.lang.reflect.Array;
import java.lang.reflect.Field;
import java.lang.reflect.Modifier;
import java.nio.file.Files;
import java.nio.file.Path;
import java.util.Collections;
import java.util.HashMap;
import java.util.IdentityHashMap;
import java.util.Map;
import java.util.Set;
import java.util.TreeSet;
import java.util.regex.Matcher;
import java.util.regex.Pattern;

/** What of LANGUAGE.md can be read off the file, by its rules' numbers, and how much room a run takes. */
public final class LanguageTest {
    private static final int MOST_MADE = 200;
    private static final int ROOM_OBJECTS = 600_000;
    private static final int ROOM_ELEMENTS = 7_300_000;

    private static final Pattern METHOD =
        Pattern.compile("(?m)^( {4}| {8})((?:[\\w\\[\\]]+ )*)(\\w+)\\((.*)\\)( throws [\\w, ]+)? \\{$");

    /** The file without comments and without what stands in its texts. */
    private static String code;
    private static final Map<String, Set<String>> calledBy = new HashMap<>();
    private static final Map<String, String> extended = new HashMap<>();

    public static void main(String[] args) throws Exception {
        String file = Files.readString(Path.of("src/main/java/StretchedRows.java"));
        code = file.replaceAll("(?s)/\\*.*?\\*/", "").replaceAll("//.*", "").replaceAll("\"[^\"]*\"", "\"\"");
        characters(file);
        forbiddenWords();
        library();
        exceptions();
        fields();
        methods();
        callDepths();
        room();
        Check.end("LanguageTest");
    }

    private static void characters(String file) {
        Check.isTrue("rule 3: characters 0 to 255 alone", file.chars().allMatch(c -> c < 128));
    }

    private static void forbiddenWords() {
        for (String word : new String[] {"import", "package", "try", "catch", "finally", "synchronized", "assert", "volatile",
            "native", "strictfp", "transient", "float", "double", "var", "yield", "goto", "equals", "hashCode", "toString", "getClass",
            "System", "String", "Object", "Thread", "Override", "protected"}) {
            Check.isTrue("the file has '" + word + "'", !Pattern.compile("\\b" + word + "\\b").matcher(code).find());
        }
        for (String sign : new String[] {"->", "::", "static {", "][", "[] []", "\" +", "+ \"", "@"}) {
            Check.isTrue("the file has '" + sign + "'", !code.contains(sign));
        }
    }

    private static void library() {
        Set<String> allowed = Set.of("Math.max", "Math.min", "Math.floorDiv", "AT_FIRST.clone");
        Matcher used = Pattern.compile("\\b([A-Z]\\w*)\\.(\\w+)").matcher(code);
        while (used.find()) {
            Check.isTrue("rule 4: " + used.group(), allowed.contains(used.group()));
        }
    }

    private static void exceptions() {
        int all = countOf("\\bthrow\\b");
        int plain = countOf("throw new Illegal(Argument|State)Exception\\(\"\"\\);");
        Check.isTrue("rule 6: there are throws", all > 0);
        Check.same("rule 6: throws of the written form", plain, all);
        Check.same("rule 6: texts stand in throws alone", countOf("\"\""), all);
    }

    private static int countOf(String regex) {
        return (int) Pattern.compile(regex).matcher(code).results().count();
    }

    private static void fields() {
        Check.isTrue("rule 11: some twelve classes", StretchedRows.class.getDeclaredClasses().length + 1 <= 12);
        fieldsOf(StretchedRows.class);
        for (Class<?> inside : StretchedRows.class.getDeclaredClasses()) {
            fieldsOf(inside);
        }
    }

    private static void fieldsOf(Class<?> each) {
        int own = 0;
        for (Field field : each.getDeclaredFields()) {
            if (Modifier.isStatic(field.getModifiers())) {
                Check.isTrue("rule 5: " + field, Modifier.isFinal(field.getModifiers())
                    && (field.getType() == int.class || field.getType() == int[].class));
            } else {
                own++;
            }
        }
        Check.isTrue("rule 11: fields of " + each, own <= 20);
    }

    private static void methods() {
        Matcher heirs = Pattern.compile("class (\\w+) extends (\\w+)").matcher(code);
        while (heirs.find()) {
            extended.put(heirs.group(1), heirs.group(2));
        }
        int found = 0;
        Matcher method = METHOD.matcher(code);
        while (method.find()) {
            found++;
            String name = method.group(3);
            int end = code.indexOf("\n" + method.group(1) + "}", method.end());
            String body = code.substring(method.end(), end);
            Check.isTrue("rule 11: lines of " + name, body.split("\n").length <= 60);
            Check.isTrue("rule 11: parameters of " + name, method.group(4).split(",").length <= 7);
            boolean constructs = Character.isUpperCase(name.charAt(0));
            boolean makes = Pattern.compile("(?<!throw )\\bnew\\b|clone").matcher(body).find();
            Check.isTrue("rule 12: objects made in " + name, !makes || constructs || name.equals("newNode"));
            Check.isTrue("rule 6: a throw in a constructor " + name, !constructs || !body.contains("throw"));
            calledBy.computeIfAbsent(name, n -> new TreeSet<>()).addAll(callsIn(body, name));
        }
        Check.isTrue("the methods were found", found > 60);
    }

    private static Set<String> callsIn(String body, String name) {
        Set<String> calls = new TreeSet<>();
        Matcher call = Pattern.compile("(throw new )?\\b(\\w+)\\(").matcher(body);
        while (call.find()) {
            if (call.group(1) == null) {
                calls.add(call.group(2).equals("super") ? extended.get(name) : call.group(2));
            }
        }
        return calls;
    }

    private static void callDepths() {
        for (String name : calledBy.keySet()) {
            int depth = depthOf(name, 1);
            Check.isTrue("rules 8 and 11: " + name + " goes " + depth + " deep", depth <= 8);
        }
    }

    /** Of methods with the same name the deepest; what calls itself comes out as too deep. */
    private static int depthOf(String name, int level) {
        int deepest = level;
        if (level <= 8) {
            for (String called : calledBy.getOrDefault(name, Set.of())) {
                deepest = Math.max(deepest, depthOf(called, level + 1));
            }
        }
        return deepest;
    }

    /** Only making a node makes objects, so the dearest run is the one that makes the most of the dearest kind. */
    private static void room() throws IllegalAccessException {
        for (int kind = StretchedRows.BOX; kind <= StretchedRows.GRID; kind++) {
            StretchedRows x = new StretchedRows();
            x.node(StretchedRows.NONE, kind);
            Set<Object> seen = Collections.newSetFromMap(new IdentityHashMap<>());
            int elements = elementsFrom(x, seen);
            Check.isTrue("objects of a run with kind " + kind, seen.size() * MOST_MADE < ROOM_OBJECTS / 10);
            Check.isTrue("elements of a run with kind " + kind, elements * MOST_MADE < ROOM_ELEMENTS / 10);
        }
    }

    private static int elementsFrom(Object start, Set<Object> seen) throws IllegalAccessException {
        if (start == null || !seen.add(start)) {
            return 0;
        }
        int sum = 0;
        if (start.getClass().isArray()) {
            sum = Array.getLength(start);
            for (int i = 0; i < Array.getLength(start) && start instanceof Object[] all; i++) {
                sum += elementsFrom(all[i], seen);
            }
            return sum;
        }
        for (Class<?> each = start.getClass(); each != Object.class; each = each.getSuperclass()) {
            for (Field field : each.getDeclaredFields()) {
                if (!Modifier.isStatic(field.getModifiers())) {
                    field.setAccessible(true);
                    sum += 1 + (field.getType().isPrimitive() ? 0 : elementsFrom(field.get(start), seen));
                }
            }
        }
        return sum;
    }
}
