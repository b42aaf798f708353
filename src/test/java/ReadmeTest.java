import java.io.IOException;
import java.lang.reflect.Field;
import java.lang.reflect.Method;
import java.lang.reflect.Modifier;
import java.nio.file.Files;
import java.nio.file.Path;
import java.util.ArrayList;
import java.util.Arrays;
import java.util.List;
import java.util.regex.Matcher;
import java.util.regex.Pattern;

/** What README.md says of the calls: its examples answer as they say, and no call or constant is left out. */
public final class ReadmeTest {
    private static final Pattern BLOCK = Pattern.compile("```java\n(.*?)```", Pattern.DOTALL);
    private static final Pattern TEXT = Pattern.compile("\"([^\"]*)\"\\.toCharArray\\(\\)");
    private static final Pattern CALL = Pattern.compile("house\\.(\\w+)\\(([^)]*)\\); *// *(-?\\d+)( .*)?");
    private static final Pattern ROW = Pattern.compile("(?m)^\\| `(\\w+)\\(([^)]*)\\)` \\|");
    private static final Pattern CONSTANT = Pattern.compile("`([A-Z]+)` \\((-?\\d+)\\)");

    private static final Check CHECK = new Check("ReadmeTest");

    public static void main(String[] args) throws IOException, ReflectiveOperationException {
        String page = Files.readString(Path.of("README.md"));
        examplesAnswerAsTheySay(page);
        everyCallIsThere(page);
        everyConstantIsThere(page);
        CHECK.end();
    }

    private static void examplesAnswerAsTheySay(String page) throws ReflectiveOperationException {
        int blocks = 0;
        for (Matcher block = BLOCK.matcher(page); block.find(); blocks++) {
            example(block.group(1));
        }
        CHECK.holds("there are examples", blocks > 0);
    }

    private static void example(String rows) throws ReflectiveOperationException {
        MilesKept house = new MilesKept();
        int calls = 0;
        for (String row : rows.split("\n")) {
            Matcher text = TEXT.matcher(row);
            Matcher call = CALL.matcher(row);
            if (text.find()) {
                Sentences.write(house, text.group(1));
            } else if (call.matches()) {
                CHECK.due(row, answer(house, call.group(1), numbers(call.group(2))), Long.parseLong(call.group(3)));
                calls++;
            } else {
                CHECK.holds("a row without an answer makes an object or types: " + row, row.equals("}")
                    || row.equals("MilesKept house = new MilesKept();") || row.equals("    house.type(letter);"));
            }
        }
        CHECK.holds("an example has calls", calls > 0);
    }

    private static List<Integer> numbers(String arguments) {
        List<Integer> numbers = new ArrayList<>();
        for (String argument : arguments.isEmpty() ? new String[0] : arguments.split(", *")) {
            numbers.add(Integer.valueOf(argument));
        }
        return numbers;
    }

    private static long answer(MilesKept house, String name, List<Integer> numbers)
            throws ReflectiveOperationException {
        Class<?>[] types = new Class<?>[numbers.size()];
        Arrays.fill(types, int.class);
        return ((Number) MilesKept.class.getMethod(name, types).invoke(house, numbers.toArray())).longValue();
    }

    private static void everyCallIsThere(String page) {
        List<String> onPage = new ArrayList<>();
        for (Matcher row = ROW.matcher(page); row.find(); ) {
            onPage.add(row.group(1) + " " + (row.group(2).isEmpty() ? 0 : row.group(2).split(",").length));
        }
        List<String> inClass = new ArrayList<>();
        for (Method method : MilesKept.class.getDeclaredMethods()) {
            if (Modifier.isPublic(method.getModifiers())) {
                inClass.add(method.getName() + " " + method.getParameterCount());
            }
        }
        onPage.sort(null);
        inClass.sort(null);
        CHECK.holds("the calls " + onPage + " are " + inClass, onPage.equals(inClass));
    }

    private static void everyConstantIsThere(String page) throws ReflectiveOperationException {
        int found = 0;
        for (Matcher constant = CONSTANT.matcher(page); constant.find(); found++) {
            Field field = MilesKept.class.getField(constant.group(1));
            CHECK.due(field.getName(), field.getInt(null), Long.parseLong(constant.group(2)));
        }
        CHECK.due("constants that are told", found, MilesKept.class.getFields().length);
    }
}
