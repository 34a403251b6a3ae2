import java.lang.reflect.Constructor;
import java.lang.reflect.Field;
import java.lang.reflect.Method;
import java.lang.reflect.Modifier;
import java.nio.file.Files;
import java.nio.file.Path;
import java.util.HashSet;
import java.util.Map;
import java.util.Set;
import java.util.TreeMap;
import java.util.TreeSet;
import java.util.regex.Matcher;
import java.util.regex.Pattern;

/** The public face, as the document lists it, and those rules of LANGUAGE.md that a text search can see. */
public final class FaceTest {
    private static final String FACE = "days(int) height(int,int) down(int) house(int,int) person(int,int,int) state(int,int)"
        + " stateOf(int,int) here(int,int) feed(int,long) rule(int,int) card(int) end(int) draw(int,int) points(int,int)"
        + " handed(int,int,int) since(int) pairs(int,int) alike(int,int) well(int,int,int) block(int,int) served(int) best(int)"
        + " latrine(int,int) drain(int) flow(int,int) foul(int,int) drains(int) minutes(int,int,int,int) lane(int) lanes(int,int)"
        + " queue(int,boolean) list(int,int) goes(int) count(int,int,int) counted(int,int,int) off(int,int) total(int)";
    private static final String[] BANNED = {"throw\\b", "try\\b", "catch\\b", "synchronized\\b", "assert\\b",
        "static \\{", "->", "::", "System\\.(?!arraycopy)", "Object\\b", "hashCode\\b", "toString\\b", "equals\\b",
        "\\w*Exact\\b", "volatile\\b", "native\\b", "protected\\b",
        "Arrays\\.(?!fill\\b|copyOf\\b|copyOfRange\\b)", "Math\\.(?!abs\\b|max\\b|min\\b|floorDiv\\b|floorMod\\b)"};
    private static final int LONGEST_METHOD = 60;
    private static final int MOST_PARAMETERS = 7;
    private static final int DEEPEST_CALLS = 8;
    /** What reads a text calls itself on what stands in brackets, five deep at most: all four are one step of a chain. */
    private static final Set<String> RECURSION = Set.of("readSum", "readTerm", "readUnit", "readBracket");
    private static final Pattern METHOD =
        Pattern.compile("( {4}| {8})(?:public |private |static |int |void |boolean |long |[A-Z])[^;=]*?(\\w+)\\([^;=]*\\) \\{");

    public static void main(String[] args) throws Exception {
        Set<String> due = new TreeSet<>(Set.of(FACE.split(" ")));
        Set<String> names = new TreeSet<>();
        for (String method : due) {
            names.add(method.substring(0, method.indexOf('(')));
        }
        face(due);
        Due.is("the class", CampCards.class.getModifiers(), Modifier.PUBLIC | Modifier.FINAL);
        Constructor<?>[] constructors = CampCards.class.getConstructors();
        Due.is("constructors", constructors.length, 1);
        Due.is("its parameters", constructors[0].getParameterCount(), 0);
        fields(CampCards.class);
        Class<?>[] inside = CampCards.class.getDeclaredClasses();
        Due.so("some twelve classes", inside.length <= 11);
        for (Class<?> one : inside) {
            Due.so(one + " is static", Modifier.isStatic(one.getModifiers()));
            fields(one);
            for (Method method : one.getDeclaredMethods()) {
                Due.so(method + " bears no name of the face", !names.contains(method.getName()));
                Due.so(method + " takes seven at most", method.getParameterCount() <= MOST_PARAMETERS);
            }
        }
        source(Files.readString(Path.of("src/main/java/CampCards.java")));
        Due.close("FaceTest");
    }

    private static void face(Set<String> due) {
        Set<String> got = new TreeSet<>();
        for (Method method : CampCards.class.getDeclaredMethods()) {
            Due.so(method.getName() + " is public or private", Modifier.isPublic(method.getModifiers()) || Modifier.isPrivate(method.getModifiers()));
            if (!Modifier.isPublic(method.getModifiers())) {
                continue;
            }
            StringBuilder text = new StringBuilder(method.getName()).append('(');
            for (Class<?> type : method.getParameterTypes()) {
                text.append(text.charAt(text.length() - 1) == '(' ? "" : ",").append(type);
            }
            got.add(text.append(')').toString());
            Due.so(method.getName() + " answers an int", method.getReturnType() == int.class);
        }
        Due.so("the face is " + got, got.equals(due));
    }

    private static void fields(Class<?> one) {
        int own = 0;
        for (Field field : one.getDeclaredFields()) {
            Due.so(field + " is private", Modifier.isPrivate(field.getModifiers()));
            if (!Modifier.isStatic(field.getModifiers())) {
                own++;
            } else {
                Due.so(field + " is final", Modifier.isFinal(field.getModifiers()));
            }
        }
        Due.so(one + " has some twenty fields: " + own, own <= 20);
    }

    private static void source(String text) {
        String code = text.replaceAll("(?s)/\\*.*?\\*/", "").replaceAll("//[^\n]*", "");
        for (String banned : BANNED) {
            String pattern = Character.isLetter(banned.charAt(0)) ? "\\b" + banned : banned;
            Matcher found = Pattern.compile(pattern).matcher(code);
            Due.so("no " + banned, !found.find());
        }
        Matcher imports = Pattern.compile("import ([^;]*);").matcher(code);
        while (imports.find()) {
            Due.so("import of " + imports.group(1), imports.group(1).equals("java.util.Arrays"));
        }
        lengths(text);
        Due.so("no package", !code.contains("package "));
        Due.so("ASCII", text.chars().allMatch(sign -> sign < 128));
    }

    /** A method begins with a line that ends in ") {" and is a member's by its indent; it ends with the brace below it. */
    private static void lengths(String text) {
        Map<String, String> bodies = new TreeMap<>();
        String name = null;
        String end = null;
        StringBuilder body = new StringBuilder();
        int lines = 0;
        for (String line : text.split("\n")) {
            lines++;
            Matcher begins = METHOD.matcher(line);
            if (name == null && begins.matches()) {
                name = begins.group(2);
                end = begins.group(1) + "}";
                body.setLength(0);
                lines = 0;
            } else if (line.equals(end)) {
                Due.so(name + " has " + lines + " lines", lines <= LONGEST_METHOD);
                bodies.merge(stepOf(name), body.toString(), String::concat);
                name = null;
                end = null;
            } else {
                body.append(line).append('\n');
            }
        }
        Due.so("each method ends", name == null);
        Due.so("all methods are seen: " + bodies.size(), bodies.size() > 100);
        depths(bodies);
    }

    private static String stepOf(String method) {
        return RECURSION.contains(method) ? "readSum" : method;
    }

    /** Methods of one name count as one, so a chain may seem longer than it is, never shorter. */
    private static void depths(Map<String, String> bodies) {
        Map<String, Set<String>> calls = new TreeMap<>();
        for (Map.Entry<String, String> one : bodies.entrySet()) {
            Set<String> called = new TreeSet<>();
            Matcher call = Pattern.compile("\\b(\\w+)\\(").matcher(one.getValue());
            while (call.find()) {
                boolean within = stepOf(call.group(1)).equals(one.getKey()) && RECURSION.contains(call.group(1));
                if (bodies.containsKey(stepOf(call.group(1))) && !within) {
                    called.add(stepOf(call.group(1)));
                }
            }
            calls.put(one.getKey(), called);
        }
        for (String method : calls.keySet()) {
            int deep = depth(method, calls, new HashSet<>());
            Due.so(method + " goes " + deep + " calls deep", deep <= DEEPEST_CALLS);
        }
    }

    private static int depth(String method, Map<String, Set<String>> calls, Set<String> open) {
        if (!open.add(method)) {
            Due.so(method + " calls itself in a round", false);
            return 0;
        }
        int deepest = 0;
        for (String called : calls.get(method)) {
            deepest = Math.max(deepest, depth(called, calls, open));
        }
        open.remove(method);
        return deepest + 1;
    }
}
