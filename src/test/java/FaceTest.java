import java.io.IOException;
import java.lang.reflect.Constructor;
import java.lang.reflect.Field;
import java.lang.reflect.Method;
import java.lang.reflect.Modifier;
import java.nio.file.Files;
import java.nio.file.Path;
import java.util.Arrays;
import java.util.Random;
import java.util.Set;
import java.util.TreeSet;
import java.util.regex.Matcher;
import java.util.regex.Pattern;

/** The document's public face, the rules of LANGUAGE.md that can be seen, and calls with far numbers. */
public final class FaceTest {
    private static final String[] FACE = {
        "int write(int)", "int wipe()", "int fault()", "int fan()", "int word(int,long)",
        "int blade(int,int)", "int look(int,int,int)", "int spread(int)", "int fold(int)",
        "int fling()", "int snap()", "int undo()", "int reads(int)", "int open(int,int)",
        "int most(int,int)", "int judge(int,long)", "int spy(int,int,int)", "int unspy()",
        "int gaps(int)", "int share(int,boolean)", "int rests(int,int,int)",
        "int drops(int,int,boolean)", "long seed(long)", "int years(int)", "int keep(int)",
        "int again(int)", "int count(int)",
    };
    private static final String[] CONSTANTS = {"UNKNOWN", "OUTSIDE", "STATE", "FULL", "NONE"};

    public static void main(String[] args) throws Exception {
        methods();
        constants();
        classesInside();
        wordsOfTheFile();
        lengthsOfMethods();
        farNumbers();
        Check.finish();
    }

    private static void isSo(String what, boolean so) {
        Check.due(what, so ? 1 : 0, 1);
    }

    private static String shape(Method method) {
        StringBuilder parameters = new StringBuilder();
        for (Class<?> type : method.getParameterTypes()) {
            parameters.append(parameters.length() == 0 ? "" : ",").append(type.getName());
        }
        return method.getReturnType().getName() + " " + method.getName() + "(" + parameters + ")";
    }

    private static void methods() {
        Set<String> seen = new TreeSet<>();
        Set<String> names = new TreeSet<>();
        for (Method method : FanBlades.class.getDeclaredMethods()) {
            if (!Modifier.isPrivate(method.getModifiers())) {
                isSo("public, of the object: " + shape(method), Modifier.isPublic(method.getModifiers())
                    && !Modifier.isStatic(method.getModifiers()));
                seen.add(shape(method));
                names.add(method.getName());
            }
        }
        isSo("the face is the document's: " + seen, seen.equals(new TreeSet<>(Arrays.asList(FACE))));
        for (Method method : FanBlades.class.getDeclaredMethods()) {
            if (Modifier.isPrivate(method.getModifiers())) {
                isSo("a name of its own: " + method, !names.contains(method.getName()));
            }
        }
        Constructor<?>[] made = FanBlades.class.getDeclaredConstructors();
        isSo("one public constructor without parameters", made.length == 1
            && Modifier.isPublic(made[0].getModifiers()) && made[0].getParameterCount() == 0);
        int modifiers = FanBlades.class.getModifiers();
        isSo("public and final", Modifier.isPublic(modifiers) && Modifier.isFinal(modifiers));
    }

    private static void constants() throws IllegalAccessException {
        int[] values = {-1, -2, -3, -4, -9};
        Set<String> seen = new TreeSet<>();
        for (Field field : FanBlades.class.getDeclaredFields()) {
            boolean open = !Modifier.isPrivate(field.getModifiers());
            if (open) {
                seen.add(field.getName());
                int at = Arrays.asList(CONSTANTS).indexOf(field.getName());
                Check.due(field.getName(), field.getInt(null), at < 0 ? 0 : values[at]);
            }
            if (open || Modifier.isStatic(field.getModifiers())) {
                isSo("static and final: " + field, Modifier.isStatic(field.getModifiers())
                    && Modifier.isFinal(field.getModifiers()));
            }
        }
        isSo("the constants are the document's", seen.equals(new TreeSet<>(Arrays.asList(CONSTANTS))));
    }

    private static void classesInside() {
        Class<?>[] inside = FanBlades.class.getDeclaredClasses();
        isSo("at most twelve classes", inside.length < 12);
        for (Class<?> type : inside) {
            isSo("static: " + type, Modifier.isStatic(type.getModifiers()));
            isSo("private or package-visible: " + type, !Modifier.isPublic(type.getModifiers())
                && !Modifier.isProtected(type.getModifiers()));
            isSo("at most twenty fields: " + type, type.getDeclaredFields().length <= 20);
            for (Method method : type.getDeclaredMethods()) {
                isSo("at most seven parameters: " + method, method.getParameterCount() <= 7);
            }
        }
    }

    private static String file() throws IOException {
        return Files.readString(Path.of("src/main/java/FanBlades.java"));
    }

    private static void wordsOfTheFile() throws IOException {
        String code = file().replaceAll("(?s)/\\*.*?\\*/", "").replaceAll("//[^\n]*", "");
        String[] ruledOut = {
            "\\bthrow\\b", "\\btry\\b", "\\bcatch\\b", "\\bsynchronized\\b", "\\bassert\\b", "->", "::",
            "Exact\\b", "\\bpackage\\b", "\\bThread\\b", "System\\.(?!arraycopy)", "\\bdouble\\b",
            "\\bfloat\\b", "\\bwhile\\b", "@", "[^\\x00-\\x7f]", "\\bequals\\b", "\\bhashCode\\b", "\\btoString\\b",
        };
        for (String word : ruledOut) {
            Matcher matcher = Pattern.compile(word).matcher(code);
            isSo("not in the file: " + word, !matcher.find());
        }
        Matcher imports = Pattern.compile("import ([^;]*);").matcher(code);
        while (imports.find()) {
            isSo("may be imported: " + imports.group(1), imports.group(1).equals("java.util.Arrays"));
        }
    }

    private static void lengthsOfMethods() throws IOException {
        int begun = 0;
        String[] lines = file().split("\n");
        for (int i = 0; i < lines.length; i++) {
            if (lines[i].matches("( {4}| {8})(public|private|static|int|long|boolean|void) .*\\) \\{")) {
                begun = i;
            }
            if (lines[i].matches("( {4}| {8})\\}")) {
                isSo("short enough, the method at line " + (begun + 1), i - begun < 60 || begun == 0);
                begun = 0;
            }
        }
    }

    private static void farNumbers() throws Exception {
        Random chance = new Random(12);
        Method[] calls = FanBlades.class.getMethods();
        Arrays.sort(calls, (a, b) -> a.toString().compareTo(b.toString()));
        for (int run = 0; run < 40; run++) {
            FanBlades x = run == 0 ? new FanBlades() : Check.fanOf("F" + "B0abcabcabB1bcabcabc".repeat(run % 4), "4130");
            for (int i = 0; i < 400; i++) {
                Method call = calls[chance.nextInt(calls.length)];
                if (call.getDeclaringClass() == FanBlades.class) {
                    call.invoke(x, numbersFor(call, chance));
                }
            }
            isSo("no call threw", true);
        }
    }

    private static Object[] numbersFor(Method call, Random chance) {
        long[] far = {Integer.MIN_VALUE, Integer.MAX_VALUE, Integer.MIN_VALUE + 1, -1, 0, 1, 2, 3, 4, 5, 28, 97, 256};
        Object[] numbers = new Object[call.getParameterCount()];
        for (int i = 0; i < numbers.length; i++) {
            Class<?> type = call.getParameterTypes()[i];
            long number = far[chance.nextInt(far.length)];
            if (type == int.class) {
                numbers[i] = (int) number;
            } else if (type == long.class) {
                numbers[i] = chance.nextBoolean() ? number : chance.nextLong();
            } else {
                numbers[i] = chance.nextBoolean();
            }
        }
        return numbers;
    }
}
