import java.lang.management.ManagementFactory;
import java.lang.reflect.Constructor;
import java.lang.reflect.Field;
import java.lang.reflect.Member;
import java.lang.reflect.Method;
import java.lang.reflect.Modifier;
import java.nio.file.Files;
import java.nio.file.Path;
import java.util.Arrays;
import java.util.Set;
import java.util.TreeSet;

/** The public face of the document, the rules of LANGUAGE.md that can be seen from outside, and the room. */
public final class FaceTest {
    private static final Check CHECK = new Check("FaceTest");
    private static final Set<String> FACE = new TreeSet<>(Arrays.asList(
        "int type(int)", "int clear()", "int house()", "int reading(int,int)", "int change(int,int)", "int now(int)",
        "long rivals()", "int adds(int,int,int)", "int strikes(int)", "int rules(int,int)", "int undo()",
        "int on(int,int)", "int plate(int)", "long odds(int,int,int)", "int keep(int)", "int back(int)",
        "int count(int)"));

    public static void main(String[] args) throws Exception {
        face();
        insides();
        words();
        room();
        CHECK.end();
    }

    private static String signature(Method method) {
        StringBuilder text = new StringBuilder(method.getReturnType() + " " + method.getName() + "(");
        for (Class<?> type : method.getParameterTypes()) {
            text.append(text.charAt(text.length() - 1) == '(' ? "" : ",").append(type);
        }
        return text.append(")").toString();
    }

    private static boolean isHidden(Member member) {
        return Modifier.isPrivate(member.getModifiers()) || member.isSynthetic();
    }

    private static void face() throws Exception {
        Class<?> type = MilesKept.class;
        CHECK.holds("the class is public and final",
            Modifier.isPublic(type.getModifiers()) && Modifier.isFinal(type.getModifiers()));
        Set<String> seen = new TreeSet<>();
        for (Method method : type.getDeclaredMethods()) {
            if (!isHidden(method)) {
                CHECK.holds(method + " is public", Modifier.isPublic(method.getModifiers()));
                CHECK.holds(method + " is no static one", !Modifier.isStatic(method.getModifiers()));
                seen.add(signature(method));
            }
        }
        CHECK.holds("the methods are " + seen, seen.equals(FACE));
        Constructor<?>[] constructors = type.getDeclaredConstructors();
        CHECK.holds("one public constructor without numbers", constructors.length == 1
            && constructors[0].getParameterCount() == 0 && Modifier.isPublic(constructors[0].getModifiers()));
        Set<String> constants = new TreeSet<>();
        for (Field field : type.getDeclaredFields()) {
            if (!isHidden(field)) {
                CHECK.holds(field + " is a constant", field.toString().startsWith("public static final int "));
                constants.add(field.getName() + " " + field.getInt(null));
            }
        }
        CHECK.holds("the constants are " + constants,
            constants.equals(new TreeSet<>(Arrays.asList("BAD -1", "STATE -2", "FULL -3", "NONE -9"))));
    }

    private static void insides() {
        Class<?>[] insides = MilesKept.class.getDeclaredClasses();
        CHECK.holds("twelve classes at most", insides.length + 1 <= 12);
        for (Class<?> inside : insides) {
            CHECK.holds(inside + " is static and not public", Modifier.isStatic(inside.getModifiers())
                && !Modifier.isPublic(inside.getModifiers()) && !Modifier.isProtected(inside.getModifiers()));
            lookInto(inside);
        }
        lookInto(MilesKept.class);
    }

    private static void lookInto(Class<?> type) {
        int fields = 0;
        for (Field field : type.getDeclaredFields()) {
            fields += Modifier.isStatic(field.getModifiers()) ? 0 : 1;
            CHECK.holds(field + " is final if it is static",
                !Modifier.isStatic(field.getModifiers()) || Modifier.isFinal(field.getModifiers()));
        }
        CHECK.holds(type + " has twenty fields at most", fields <= 20);
        for (Method method : type.getDeclaredMethods()) {
            CHECK.holds(method + " takes seven numbers at most", method.getParameterCount() <= 7);
            boolean named = FACE.stream().anyMatch(one -> one.contains(" " + method.getName() + "("));
            CHECK.holds(method + " bears no name of the face",
                !named || type == MilesKept.class && Modifier.isPublic(method.getModifiers()));
        }
    }

    private static void words() throws Exception {
        String source = Files.readString(Path.of("src/main/java/MilesKept.java"));
        String code = source.replaceAll("(?s)/\\*.*?\\*/", "").replaceAll("//[^\n]*", "");
        for (String word : new String[] {"throw", "throws", "try", "catch", "synchronized", "assert", "package",
            "protected", "native", "volatile", "Exact", "HashMap", "Object", "System.out", "random", "Thread"}) {
            CHECK.holds("'" + word + "' is not in it", !code.matches("(?s).*\\b" + word + "\\b.*"));
        }
        CHECK.holds("no lambda, no method reference", !code.contains("->") && !code.contains("::"));
        CHECK.holds("no static block", !code.matches("(?s).*static\\s*\\{.*"));
        CHECK.holds("signs 1 to 127 alone", source.chars().allMatch(sign -> sign >= 1 && sign <= 127));
        for (String line : code.split("\n")) {
            CHECK.holds(line, !line.startsWith("import") || line.equals("import java.util.Arrays;"));
        }
    }

    /** One room holds all calls of a run: the rows are made with the object, and no call makes another one. */
    private static void room() {
        com.sun.management.ThreadMXBean threads =
            (com.sun.management.ThreadMXBean) ManagementFactory.getThreadMXBean();
        long self = Thread.currentThread().getId();
        useAll(new MilesKept());
        long start = threads.getThreadAllocatedBytes(self);
        MilesKept house = new MilesKept();
        long made = threads.getThreadAllocatedBytes(self);
        useAll(house);
        long used = threads.getThreadAllocatedBytes(self);
        CHECK.holds("a new object takes " + (made - start) + " bytes", made - start < 40_000);
        CHECK.holds("the calls take " + (used - made) + " bytes", used - made < 4_000);
    }

    private static void useAll(MilesKept house) {
        for (int round = 0; round < 10; round++) {
            for (int i = 0; i < 8; i++) {
                house.type("r1 2 3;?".charAt(i));
            }
            house.house();
            house.clear();
            house.adds(round, 100 - round, 3);
            house.rules(20 + round, 100);
            house.odds(3, 5, round % 2);
            house.reading(0, 5);
            house.change(0, 3);
            house.now(round % 8);
            house.rivals();
            house.on(round, 0);
            house.plate(round);
            house.keep(0);
            house.strikes(0);
            house.undo();
            house.back(round % 2);
            house.adds(round, 50, 1);
            house.count(0);
        }
    }
}
