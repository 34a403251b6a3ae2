import java.lang.reflect.Constructor;
import java.lang.reflect.Field;
import java.lang.reflect.Method;
import java.lang.reflect.Modifier;
import java.nio.file.Files;
import java.nio.file.Path;
import java.util.Set;
import java.util.TreeSet;
import java.util.regex.Matcher;
import java.util.regex.Pattern;

/** The public face, as the document lists it, and those rules of LANGUAGE.md that a text search can see. */
public final class FaceTest {
    private static final String FACE = "days(int) height(int,int) down(int) house(int,int) person(int,int,int) state(int,int)"
        + " stateOf(int,int) here(int,int) feed(int,long) rule(int,int) card(int) end(int) draw(int,int) points(int,int)"
        + " handed(int,int,int) since(int) pairs(int,int) alike(int,int) well(int,int,int) block(int,int) served(int) best(int)"
        + " latrine(int,int) drain(int) flow(int,int) foul(int,int) drains(int) minutes(int,int,int,int) lane(int) lanes(int,int)"
        + " queue(int,boolean) list(int,int) goes(int) count(int,int,int) counted(int,int,int) off(int,int) total(int)";
    private static final String[] BANNED = {"throw\\b", "try\\b", "catch\\b", "synchronized\\b", "assert\\b",
        "static \\{", "->", "::", "System\\.(?!arraycopy)", "Object\\b", "hashCode\\b", "toString\\b", "equals\\b",
        "\\w*Exact\\b", "volatile\\b", "native\\b", "protected\\b",
        "Arrays\\.(?!fill\\b|copyOf\\b|copyOfRange\\b)", "Math\\.(?!abs\\b|max\\b|min\\b|floorDiv\\b|floorMod\\b)"};
    private static final int LONGEST_METHOD = 60;
    private static final int MOST_PARAMETERS = 7;

    public static void main(String[] args) throws Exception {
        Set<String> due = new TreeSet<>(Set.of(FACE.split(" ")));
        Set<String> names = new TreeSet<>();
        for (String method : due) {
            names.add(method.substring(0, method.indexOf('(')));
        }
        face(due);
        Due.is("the class", CampCards.class.getModifiers(), Modifier.PUBLIC | Modifier.FINAL);
        Constructor<?>[] constructors = CampCards.class.getConstructors();
        Due.is("constructors", constructors.length, 1);
        Due.is("its parameters", constructors[0].getParameterCount(), 0);
        fields(CampCards.class);
        Class<?>[] inside = CampCards.class.getDeclaredClasses();
        Due.so("some twelve classes", inside.length <= 11);
        for (Class<?> one : inside) {
            Due.so(one + " is static", Modifier.isStatic(one.getModifiers()));
            fields(one);
            for (Method method : one.getDeclaredMethods()) {
                Due.so(method + " bears no name of the face", !names.contains(method.getName()));
                Due.so(method + " takes seven at most", method.getParameterCount() <= MOST_PARAMETERS);
            }
        }
        source(Files.readString(Path.of("src/main/java/CampCards.java")));
        Due.close("FaceTest");
    }

    private static void face(Set<String> due) {
        Set<String> got = new TreeSet<>();
        for (Method method : CampCards.class.getDeclaredMethods()) {
            Due.so(method.getName() + " is public or private", Modifier.isPublic(method.getModifiers()) || Modifier.isPrivate(method.getModifiers()));
            if (!Modifier.isPublic(method.getModifiers())) {
                continue;
            }
            StringBuilder text = new StringBuilder(method.getName()).append('(');
            for (Class<?> type : method.getParameterTypes()) {
                text.append(text.charAt(text.length() - 1) == '(' ? "" : ",").append(type);
            }
            got.add(text.append(')').toString());
            Due.so(method.getName() + " answers an int", method.getReturnType() == int.class);
        }
        Due.so("the face is " + got, got.equals(due));
    }

    private static void fields(Class<?> one) {
        int own = 0;
        for (Field field : one.getDeclaredFields()) {
            Due.so(field + " is private", Modifier.isPrivate(field.getModifiers()));
            if (!Modifier.isStatic(field.getModifiers())) {
                own++;
            } else {
                Due.so(field + " is final", Modifier.isFinal(field.getModifiers()));
            }
        }
        Due.so(one + " has some twenty fields: " + own, own <= 20);
    }

    private static void source(String text) {
        String code = text.replaceAll("(?s)/\\*.*?\\*/", "").replaceAll("//[^\n]*", "");
        for (String banned : BANNED) {
            String pattern = Character.isLetter(banned.charAt(0)) ? "\\b" + banned : banned;
            Matcher found = Pattern.compile(pattern).matcher(code);
            Due.so("no " + banned, !found.find());
        }
        Matcher imports = Pattern.compile("import ([^;]*);").matcher(code);
        while (imports.find()) {
            Due.so("import of " + imports.group(1), imports.group(1).equals("java.util.Arrays"));
        }
        lengths(text);
        Due.so("no package", !code.contains("package "));
        Due.so("ASCII", text.chars().allMatch(sign -> sign < 128));
    }

    /** A method begins with a line that ends in ") {" and is a member's by its indent; it ends with the brace below it. */
    private static void lengths(String text) {
        String indent = null;
        int lines = 0;
        for (String line : text.split("\n")) {
            lines++;
            if (indent == null && line.matches("( {4}| {8})(public |private |static |int |void |boolean |long |[A-Z])[^;=]*\\) \\{")) {
                indent = line.replaceAll("\\S.*", "");
                lines = 0;
            } else if (indent != null && line.equals(indent + "}")) {
                Due.so("a method of " + lines + " lines", lines <= LONGEST_METHOD);
                indent = null;
            }
        }
        Due.so("each method ends", indent == null);
    }
}
