import java.io.IOException;
import java.lang.reflect.Constructor;
import java.lang.reflect.Field;
import java.lang.reflect.Method;
import java.lang.reflect.Modifier;
import java.nio.file.Files;
import java.nio.file.Path;
import java.util.Set;
import java.util.TreeSet;
import java.util.regex.Matcher;
import java.util.regex.Pattern;

/** The face of the class, and those rules of LANGUAGE.md that can be seen from outside; run from the project's root. */
public final class FaceTest {
    private static final Set<String> FACE = Set.of(
        "boolean pokeMod(int,int)", "int peekMod(int)", "int init()", "boolean ready()", "boolean poke(int,int,int)",
        "int peek(int,int)", "boolean reduce(int)", "boolean addMod(int,int,int)", "boolean subMod(int,int,int)",
        "boolean mulMod(int,int,int)", "boolean montMod(int,int,int)", "boolean powMod(int,int,int)",
        "int invMod(int,int)", "int witness(int)", "int compare(int,int)");
    private static final String FORBIDDEN =
        "\\b(throw|throws|try|catch|synchronized|assert|import|package|protected|native|volatile|Object|BigInteger"
        + "|Exception|System|Thread|double|float)\\b|->|::|Exact\\b";
    private static int wrong = 0;

    public static void main(String[] args) throws IOException {
        checkClass();
        checkMethods();
        checkFields(ModEngine.class);
        checkNested();
        checkSource(Files.readString(Path.of("src/main/java/ModEngine.java")));
        System.out.println(wrong == 0 ? "the face is as due" : wrong + " faults");
        if (wrong != 0) {
            System.exit(1);
        }
    }

    private static void must(boolean holds, String what) {
        if (!holds) {
            wrong++;
            System.out.println(what);
        }
    }

    private static void checkClass() {
        int modifiers = ModEngine.class.getModifiers();
        must(Modifier.isPublic(modifiers) && Modifier.isFinal(modifiers), "the class is not public and final");
        Constructor<?>[] all = ModEngine.class.getDeclaredConstructors();
        must(all.length == 1 && Modifier.isPublic(all[0].getModifiers()), "not one public constructor");
    }

    private static void checkMethods() {
        Set<String> seen = new TreeSet<>();
        Set<String> publicNames = new TreeSet<>();
        for (Method method : ModEngine.class.getDeclaredMethods()) {
            if (!Modifier.isPrivate(method.getModifiers())) {
                must(Modifier.isPublic(method.getModifiers()), "neither public nor private: " + method);
                seen.add(form(method));
                publicNames.add(method.getName());
            }
        }
        must(seen.equals(FACE), "the face is " + seen);
        for (Method method : ModEngine.class.getDeclaredMethods()) {
            boolean hides = Modifier.isPrivate(method.getModifiers()) && publicNames.contains(method.getName());
            must(!hides, "a private method bears a public one's name: " + method);
        }
        for (Class<?> inside : ModEngine.class.getDeclaredClasses()) {
            for (Method method : inside.getDeclaredMethods()) {
                must(!publicNames.contains(method.getName()), "a method inside bears a public one's name: " + method);
            }
        }
    }

    private static String form(Method method) {
        StringBuilder text = new StringBuilder();
        for (Class<?> type : method.getParameterTypes()) {
            text.append(text.length() == 0 ? "" : ",").append(type.getName());
        }
        return method.getReturnType().getName() + " " + method.getName() + "(" + text + ")";
    }

    private static void checkFields(Class<?> of) {
        for (Field field : of.getDeclaredFields()) {
            int modifiers = field.getModifiers();
            must(of != ModEngine.class || Modifier.isPrivate(modifiers), "not private: " + field);
            must(!Modifier.isStatic(modifiers) || Modifier.isFinal(modifiers), "static and not final: " + field);
        }
        must(of.getDeclaredFields().length <= 24, "too many fields: " + of);
    }

    private static void checkNested() {
        for (Class<?> inside : ModEngine.class.getDeclaredClasses()) {
            int modifiers = inside.getModifiers();
            must(Modifier.isStatic(modifiers) && !Modifier.isPublic(modifiers), "not static, or public: " + inside);
            checkFields(inside);
        }
    }

    private static void checkSource(String source) {
        String code = source.replaceAll("(?s)/\\*.*?\\*/", " ").replaceAll("//[^\n]*", " ");
        Matcher matcher = Pattern.compile(FORBIDDEN).matcher(code);
        while (matcher.find()) {
            must(false, "not in the language: " + matcher.group());
        }
        must(source.chars().allMatch(sign -> sign == '\n' || sign >= ' ' && sign < 127), "a sign outside ASCII");
    }
}
