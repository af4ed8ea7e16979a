import java.io.IOException;
import java.lang.reflect.Field;
import java.lang.reflect.Method;
import java.lang.reflect.Modifier;
import java.nio.file.Files;
import java.nio.file.Path;
import java.util.Arrays;
import java.util.List;
import java.util.NoSuchElementException;
import java.util.Set;
import java.util.TreeSet;
import java.util.regex.Matcher;
import java.util.regex.Pattern;

/** The public face, and those rules of LANGUAGE.md that can be seen by looking at class and text. */
public final class FaceTest {
    private static final Set<String> FACE = new TreeSet<>(List.of(
            "int feed(int,int,int,int,int)", "int rules(int)", "int fault(int)", "int rock(int,int,int)",
            "boolean chance(int,int,int)", "int village(int,int)", "boolean way(int,int,int)", "int go(int)",
            "int drill(int,boolean,int)", "long likely(int,int,int)", "int hope(int,int)",
            "long plan(int,int)", "int planned(int,int)", "boolean visit(int,int,boolean)",
            "long still(int,int)", "int look(int,int)", "int count(int)"));

    // What the rules leave out, by the rule's number.
    private static final String[] BARRED = {
        "4: import (?!java\\.util\\.NoSuchElementException;)", "2: ->", "2: ::", "4: Exact\\b", "6: \\bcatch\\b",
        "6: \\bfinally\\b", "6: \\bassert\\b", "6: \\bsynchronized\\b", "13: \\bSystem\\.", "13: \\bRandom\\b",
        "5: \\bstatic \\{", "4: \\bObjects\\b", "10: \"\\s*\\+", "9: while \\(true\\)", "9: for \\(;;\\)"};

    public static void main(String[] args) throws IOException {
        publicMembers();
        exceptions();
        fields();
        nestedClasses();
        sourceText();
        methodLengths();
        Check.end("FaceTest");
    }

    private static void publicMembers() {
        int modifiers = DryWells.class.getModifiers();
        Check.due("public and final", Modifier.isPublic(modifiers) && Modifier.isFinal(modifiers), true);
        Check.due("constructors", DryWells.class.getDeclaredConstructors().length, 1);
        Check.due("public constructors", DryWells.class.getConstructors().length, 1);
        Set<String> found = new TreeSet<>();
        Set<String> publicNames = new TreeSet<>();
        for (Method method : DryWells.class.getDeclaredMethods()) {
            if (!Modifier.isPrivate(method.getModifiers())) {
                found.add(signature(method));
                publicNames.add(method.getName());
            }
        }
        Check.due("the face is " + found, found.equals(FACE), true);
        for (Method method : DryWells.class.getDeclaredMethods()) {
            boolean hidden = Modifier.isPrivate(method.getModifiers());
            Check.due(method.getName() + " is private and public",
                    hidden && publicNames.contains(method.getName()), false);
        }
    }

    private static String signature(Method method) {
        StringBuilder text = new StringBuilder(method.getReturnType().getName());
        text.append(' ').append(method.getName()).append('(');
        Class<?>[] types = method.getParameterTypes();
        for (int i = 0; i < types.length; i++) {
            text.append(i == 0 ? "" : ",").append(types[i].getName());
        }
        return text.append(')').toString();
    }

    /** look() names its two exceptions, no other member of the face names one. */
    private static void exceptions() {
        Check.due("the constructor's exceptions", DryWells.class.getConstructors()[0].getExceptionTypes().length, 0);
        for (Method method : DryWells.class.getDeclaredMethods()) {
            List<Class<?>> want = method.getName().equals("look")
                    ? List.of(IndexOutOfBoundsException.class, NoSuchElementException.class) : List.of();
            Check.due(method.getName() + "'s exceptions",
                    Arrays.asList(method.getExceptionTypes()).equals(want), true);
        }
    }

    private static void fields() {
        Check.due("NONE", DryWells.NONE, -1);
        for (Field field : DryWells.class.getDeclaredFields()) {
            boolean isPrivate = Modifier.isPrivate(field.getModifiers());
            Check.due(field.getName() + " is private", isPrivate, !field.getName().equals("NONE"));
        }
        Check.due("public fields", DryWells.class.getFields().length, 1);
    }

    private static void nestedClasses() {
        Class<?>[] nested = DryWells.class.getDeclaredClasses();
        Check.due("at most some twelve classes", nested.length <= 11, true);
        for (Class<?> one : nested) {
            int modifiers = one.getModifiers();
            Check.due(one.getName() + " is static", Modifier.isStatic(modifiers), true);
            Check.due(one.getName() + " is public", Modifier.isPublic(modifiers), false);
            Field[] all = one.getDeclaredFields();
            for (Field field : all) {
                boolean loose = Modifier.isStatic(field.getModifiers()) && !Modifier.isFinal(field.getModifiers());
                Check.due(field + " is static and not final", loose, false);
            }
            for (Method method : one.getDeclaredMethods()) {
                Check.due(method + " has at most seven parameters", method.getParameterCount() <= 7, true);
            }
            long own = Arrays.stream(all).filter(f -> !Modifier.isStatic(f.getModifiers())).count();
            Check.due(one.getName() + " has at most some twenty fields", own <= 20, true);
        }
    }

    private static void sourceText() throws IOException {
        String text = Files.readString(Path.of("src/main/java/DryWells.java"));
        for (String barred : BARRED) {
            int colon = barred.indexOf(": ");
            Pattern pattern = Pattern.compile(barred.substring(colon + 2));
            Check.due("rule " + barred, pattern.matcher(text).find(), false);
        }
        Check.due("signs beyond 127", text.chars().anyMatch(sign -> sign > 127), false);
    }

    /** Rule 11, by the indents: a method ends at the first closing brace that stands as far in as it does. */
    private static void methodLengths() throws IOException {
        List<String> lines = Files.readAllLines(Path.of("src/main/java/DryWells.java"));
        Pattern opening = Pattern.compile("( {4}| {8})\\S.*\\).*\\{");
        int methods = 0;
        for (int i = 0; i < lines.size(); i++) {
            Matcher matcher = opening.matcher(lines.get(i));
            if (matcher.matches() && !lines.get(i).matches(" +(if|for|while|switch|\\}).*")) {
                methods++;
                int end = lines.subList(i, lines.size()).indexOf(matcher.group(1) + "}");
                Check.due("lines of" + lines.get(i), end >= 0 && end <= 60, true);
            }
        }
        Check.due("methods were found", methods > 50, true);
    }
}
