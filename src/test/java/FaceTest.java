import java.io.IOException;
import java.lang.management.ManagementFactory;
import java.lang.reflect.Constructor;
import java.lang.reflect.Field;
import java.lang.reflect.Method;
import java.lang.reflect.Modifier;
import java.nio.file.Files;
import java.nio.file.Path;
import java.util.Set;
import java.util.TreeSet;
import java.util.regex.Matcher;
import java.util.regex.Pattern;

/** The public face, and those rules of LANGUAGE.md that can be seen from outside. */
public final class FaceTest {
    private static final Check CHECK = new Check("FaceTest");
    private static final String[] METHODS = {
        "int type(int)", "int clear()", "int tale()", "int place(int,int)", "int road(int,int)", "int host(int,int)",
        "int walks(int)", "int waits()", "int asks(int)", "int undo()", "int now(int)", "int soonest(int,int)",
        "int latest(int,int)", "int without(int,int)", "int robbed(int,int)", "int sure(int,int)",
        "int odds(int,int,int)", "int swaps(int,int)", "int tastes(int,int)", "int clears()", "int lie(int,int)",
        "int mark(int,int)", "int keep(int)", "int back(int)", "int count(int)", "long trace()"};
    private static final Set<Class<?>> CONSTANTS = Set.of(
        int.class, long.class, boolean.class, char.class, String.class, int[].class, long[].class, char[].class, byte[].class);

    public static void main(String[] args) throws IOException {
        constants();
        members();
        classesInside();
        source();
        room();
        CHECK.end();
    }

    private static void isSo(String what, boolean isSo) {
        CHECK.due(what, isSo ? 1 : 0, 1);
    }

    private static void constants() {
        CHECK.due("BAD", HourWell.BAD, -1);
        CHECK.due("STATE", HourWell.STATE, -2);
        CHECK.due("FULL", HourWell.FULL, -3);
        CHECK.due("NONE", HourWell.NONE, -9);
        CHECK.due("NO", HourWell.NO, -1000000);
    }

    private static String faceOf(Method method) {
        StringBuilder face = new StringBuilder(method.getReturnType() + " " + method.getName() + "(");
        for (Class<?> type : method.getParameterTypes()) face.append(type).append(',');
        if (method.getParameterCount() > 0) face.setLength(face.length() - 1);
        return face.append(')').toString();
    }

    private static void members() {
        CHECK.due("modifiers of the class", HourWell.class.getModifiers(), Modifier.PUBLIC | Modifier.FINAL);
        Set<String> due = new TreeSet<>(Set.of(METHODS));
        for (Method method : HourWell.class.getDeclaredMethods()) {
            if (Modifier.isPrivate(method.getModifiers())) continue;
            isSo("a public method: " + method, method.getModifiers() == Modifier.PUBLIC);
            isSo("a method of the face: " + method, due.remove(faceOf(method)));
        }
        isSo("methods that are missing: " + due, due.isEmpty());
        Set<String> fields = new TreeSet<>(Set.of("BAD", "STATE", "FULL", "NONE", "NO"));
        for (Field field : HourWell.class.getDeclaredFields()) {
            if (Modifier.isPrivate(field.getModifiers())) continue;
            isSo("a constant of the face: " + field, fields.remove(field.getName()) && field.getType() == int.class
                && field.getModifiers() == (Modifier.PUBLIC | Modifier.STATIC | Modifier.FINAL));
        }
        isSo("constants that are missing: " + fields, fields.isEmpty());
        Constructor<?>[] constructors = HourWell.class.getDeclaredConstructors();
        isSo("one public constructor without parameters", constructors.length == 1
            && constructors[0].getModifiers() == Modifier.PUBLIC && constructors[0].getParameterCount() == 0);
    }

    private static void classesInside() {
        Set<String> names = new TreeSet<>();
        for (String method : METHODS) names.add(method.replaceAll(".* (.*)\\(.*", "$1"));
        isSo("at most twelve classes", HourWell.class.getDeclaredClasses().length < 12);
        statics(HourWell.class);
        for (Method method : HourWell.class.getDeclaredMethods()) {
            if (Modifier.isPrivate(method.getModifiers())) isSo("another name: " + method, !names.contains(method.getName()));
        }
        for (Class<?> inside : HourWell.class.getDeclaredClasses()) {
            isSo("static: " + inside, Modifier.isStatic(inside.getModifiers()));
            isSo("not public: " + inside, (inside.getModifiers() & (Modifier.PUBLIC | Modifier.PROTECTED)) == 0);
            statics(inside);
            for (Method method : inside.getDeclaredMethods()) {
                isSo("another name: " + method, !names.contains(method.getName()));
                isSo("at most seven parameters: " + method, method.getParameterCount() <= 7);
            }
        }
    }

    private static void statics(Class<?> owner) {
        int fields = 0;
        for (Field field : owner.getDeclaredFields()) {
            boolean isStatic = Modifier.isStatic(field.getModifiers());
            if (!isStatic) fields++;
            if (isStatic) isSo("a constant: " + field, Modifier.isFinal(field.getModifiers()) && CONSTANTS.contains(field.getType()));
        }
        isSo("at most twenty fields: " + owner, fields <= 20);
    }

    private static void source() throws IOException {
        String source = Files.readString(Path.of("src/main/java/HourWell.java"));
        String bare = source.replaceAll("(?s)/\\*.*?\\*/", " ").replaceAll("//[^\n]*", " ");
        String[] banned = {"\\b(throw|throws|try|catch|synchronized|assert|package|double|float|System\\.out)\\b", "->", "::",
            "Exact\\b", "\"", "\\bequals\\b|\\bhashCode\\b|\\btoString\\b", "import (?!java\\.util\\.Arrays;)", "static\\s*\\{"};
        for (String word : banned) {
            Matcher found = Pattern.compile(word).matcher(bare);
            isSo("not in the source: " + word, !found.find());
        }
        isSo("plain signs alone", source.chars().allMatch(c -> c == '\n' || c >= 32 && c < 127));
    }

    /** All calls of a run share one room, so no call but the constructor may make anything. */
    private static void room() {
        HourWell x = Check.told("p;p;p;r0 1 2;r1 2 3;r0 2 9;h2 0 9;h1 1 0;l2 1;g1 3 9;h0 1 9;o2;");
        everyCall(x);
        com.sun.management.ThreadMXBean bean = (com.sun.management.ThreadMXBean) ManagementFactory.getThreadMXBean();
        if (!bean.isThreadAllocatedMemorySupported()) return;
        long id = Thread.currentThread().getId();
        bean.getThreadAllocatedBytes(id);
        long before = bean.getThreadAllocatedBytes(id);
        for (int k = 0; k < 1000; k++) everyCall(x);
        isSo("no call makes an object", bean.getThreadAllocatedBytes(id) - before < 16 * 1000);
    }

    private static long everyCall(HourWell x) {
        long sum = x.asks(2) + x.walks(0) + x.waits() + x.now(4) + x.now(5) + x.undo() + x.keep(0) + x.back(0);
        sum += x.soonest(0, 3) + x.latest(0, 60) + x.without(0, 0) + x.without(0, 1) + x.robbed(0, 1);
        sum += x.sure(1, 0) + x.odds(1, 0, 0) + x.swaps(0, 1) + x.tastes(0, 1) + x.lie(3, 0) + x.lie(3, -2) + x.clears();
        sum += x.mark(3, 0) + x.mark(4, 0) + x.mark(5, 0) + x.count(0) + x.trace() + x.place(0, 0) + x.road(0, 0) + x.host(0, 0);
        sum += x.type('p') + x.type('!') + x.tale() + x.clear();
        return sum;
    }
}
