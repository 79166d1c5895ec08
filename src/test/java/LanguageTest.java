import java.io.IOException;
import java.lang.reflect.Constructor;
import java.lang.reflect.Field;
import java.lang.reflect.Method;
import java.lang.reflect.Modifier;
import java.nio.file.Files;
import java.nio.file.Path;
import java.util.ArrayList;
import java.util.List;
import java.util.Set;
import java.util.TreeSet;
import java.util.regex.Matcher;
import java.util.regex.Pattern;

/** The public face, and those rules of LANGUAGE.md that can be looked up; 0 stands for the promise. */
final class LanguageTest {
    private static final String INDEX = "java.lang.IndexOutOfBoundsException";
    private static final String ARGUMENT = "java.lang.IllegalArgumentException";
    private static final String STATE = "java.lang.IllegalStateException";

    /** The face: the answer's type, the name, how many int arguments, then what it throws. */
    private static final String[][] FACE = {
        {"int", "begin", "1", ARGUMENT},
        {"int", "sign", "2", INDEX, ARGUMENT},
        {"int", "matrix", "3", INDEX, ARGUMENT},
        {"int", "set", "3", INDEX, ARGUMENT},
        {"int", "sum", "3", INDEX, STATE},
        {"int", "scale", "3", INDEX, ARGUMENT, STATE},
        {"int", "wedge", "3", INDEX, STATE},
        {"int", "contract", "3", INDEX, STATE},
        {"int", "star", "2", INDEX},
        {"int", "part", "3", INDEX, ARGUMENT},
        {"int", "reverse", "2", INDEX},
        {"int", "push", "2", INDEX, STATE},
        {"int", "append", "1", ARGUMENT, STATE},
        {"int", "clearBuffer", "0"},
        {"int", "firstError", "0"},
        {"int", "put", "1", INDEX, ARGUMENT},
        {"int", "take", "1", INDEX},
        {"int", "restore", "1", INDEX, STATE},
        {"int", "undo", "0", STATE},
        {"int", "coefficient", "2", INDEX},
        {"int", "form", "2", INDEX, ARGUMENT},
        {"long", "inner", "2", INDEX},
        {"int", "decomposable", "2", INDEX, ARGUMENT},
        {"int", "factor", "3", INDEX, ARGUMENT},
        {"int", "annihilator", "1", INDEX},
        {"int", "basis", "3", INDEX, ARGUMENT},
        {"int", "refused", "3", INDEX, ARGUMENT},
        {"int", "compare", "2", INDEX},
        {"int", "count", "1", ARGUMENT},
        {"int", "matrixAt", "2", INDEX},
        {"float", "density", "1", INDEX},
        {"double", "share", "2", INDEX, ARGUMENT},
        {"long", "digest", "0"},
    };

    private LanguageTest() {
    }

    public static void main(String[] args) throws IOException {
        face();
        membersOfTheFace();
        classesInside();
        String source = Files.readString(Path.of("src/main/java/BladeDesk.java"));
        signs(source);
        String code = withoutComments(source);
        words(code);
        library(code);
        exceptions(code);
        objects(code);
        Check.end("LanguageTest");
    }

    private static void same(String what, Object want, Object got) {
        Check.tell(0, what, String.valueOf(want), String.valueOf(got));
    }

    private static void face() {
        Set<String> want = new TreeSet<>();
        for (String[] row : FACE) {
            StringBuilder line = new StringBuilder("public ").append(row[0]).append(" BladeDesk.").append(row[1]);
            line.append('(').append(String.join(",", java.util.Collections.nCopies(Integer.parseInt(row[2]), "int")));
            line.append(')');
            if (row.length > 3) {
                line.append(" throws ").append(String.join(",", List.of(row).subList(3, row.length)));
            }
            want.add(line.toString());
        }
        Set<String> got = new TreeSet<>();
        for (Method method : BladeDesk.class.getDeclaredMethods()) {
            if (!Modifier.isPrivate(method.getModifiers()) && !method.isSynthetic()) {
                got.add(method.toString());
            }
        }
        same("the methods of the face", String.join("\n", want), String.join("\n", got));
    }

    private static void membersOfTheFace() {
        same("the class", "public final", Modifier.toString(BladeDesk.class.getModifiers()));
        List<String> fields = new ArrayList<>();
        for (Field field : BladeDesk.class.getDeclaredFields()) {
            if (!Modifier.isPrivate(field.getModifiers())) {
                fields.add(field.toString());
            }
        }
        same("the constants", "[public static final int BladeDesk.NONE]", fields);
        List<String> constructors = new ArrayList<>();
        for (Constructor<?> constructor : BladeDesk.class.getDeclaredConstructors()) {
            constructors.add(constructor.toString());
        }
        same("the constructors", "[public BladeDesk()]", constructors);
    }

    private static void classesInside() {
        Class<?>[] inside = BladeDesk.class.getDeclaredClasses();
        same("at most twelve classes", true, inside.length < 12);
        Set<String> names = new TreeSet<>();
        for (String[] row : FACE) {
            names.add(row[1]);
        }
        for (Class<?> one : inside) {
            int modifiers = one.getModifiers();
            same(one + " is static", true, Modifier.isStatic(modifiers));
            same(one + " is not public", false, Modifier.isPublic(modifiers) || Modifier.isProtected(modifiers));
            mutableStatics(one);
            for (Method method : one.getDeclaredMethods()) {
                same(method + " has no name of the face", false, names.contains(method.getName()));
            }
        }
        mutableStatics(BladeDesk.class);
        for (Method method : BladeDesk.class.getDeclaredMethods()) {
            if (Modifier.isPrivate(method.getModifiers())) {
                same(method + " has no name of the face", false, names.contains(method.getName()));
            }
            same(method + " has at most seven parameters", true, method.getParameterCount() <= 7);
        }
    }

    private static void mutableStatics(Class<?> one) {
        int fields = 0;
        for (Field field : one.getDeclaredFields()) {
            if (Modifier.isStatic(field.getModifiers())) {
                same(field + " is a constant", true, Modifier.isFinal(field.getModifiers()) && field.getType() == int.class);
            } else {
                fields++;
            }
        }
        same(one + " has at most twenty fields", true, fields <= 20);
    }

    private static void signs(String source) {
        for (int i = 0; i < source.length(); i++) {
            char sign = source.charAt(i);
            if (sign != '\n' && (sign < 32 || sign > 126)) {
                same("the sign at " + i, "an ASCII sign", (int) sign);
            }
        }
    }

    private static String withoutComments(String source) {
        return source.replaceAll("(?s)/\\*.*?\\*/", "").replaceAll("//[^\n]*", "");
    }

    private static void words(String code) {
        String[] none = {"import", "package", "try", "catch", "finally", "synchronized", "assert", "native", "var",
            "equals", "hashCode", "toString", "getMessage", "strictfp", "volatile", "transient", "protected",
            "NullPointerException", "ArrayIndexOutOfBoundsException", "Exception", "Throwable", "Object"};
        for (String word : none) {
            same("the word " + word, false, Pattern.compile("\\b" + word + "\\b").matcher(code).find());
        }
        same("a lambda", false, code.contains("->"));
        same("a method reference", false, code.contains("::"));
        same("texts joined by +", false, Pattern.compile("\"\\s*\\+|\\+\\s*\"").matcher(code).find());
        same("a static block", false, Pattern.compile("\\bstatic\\s*\\{").matcher(code).find());
        same("a loop that ends nowhere", false, Pattern.compile("while\\s*\\(|for\\s*\\(\\s*;").matcher(code).find());
    }

    private static void library(String code) {
        Set<String> allowed = Set.of("Math.abs", "Math.max", "Math.min", "Integer.bitCount", "System.arraycopy");
        Matcher used = Pattern.compile("\\b(Math|Integer|Long|System|Arrays|Float|Double|Character|String)\\.\\w+")
            .matcher(code);
        while (used.find()) {
            same(used.group() + " is of the library", true, allowed.contains(used.group()));
        }
    }

    private static void exceptions(String code) {
        Matcher thrown = Pattern.compile("throw\\b[^;]*;").matcher(code);
        Pattern good = Pattern.compile(
            "throw new (IllegalStateException|IllegalArgumentException|IndexOutOfBoundsException)\\(\"[^\"]+\"\\);");
        while (thrown.find()) {
            same(thrown.group(), true, good.matcher(thrown.group()).matches());
        }
    }

    /** No call makes objects: new stands in constructors and behind throw alone. Methods stay short. */
    private static void objects(String code) {
        Pattern head = Pattern.compile("(?m)^( {4}| {8})((?:public |private |static |final )*)(\\S+ )?(\\w+)\\([^;{}]*\\{$");
        Matcher method = head.matcher(code);
        int methods = 0;
        while (method.find()) {
            if (Set.of("if", "for", "switch").contains(method.group(4))) {
                continue;
            }
            methods++;
            String name = method.group(4);
            int end = code.indexOf("\n" + method.group(1) + "}\n", method.end() - 1);
            String body = code.substring(method.end(), end);
            same(name + " is short", true, body.lines().count() <= 60);
            if (method.group(3) == null) {
                same("the constructor of " + name + " throws nothing", false, body.contains("throw "));
            } else {
                same(name + " makes no objects", false, body.replace("throw new ", "").contains("new "));
            }
        }
        same("all methods were found", true, methods > 100);
    }
}
