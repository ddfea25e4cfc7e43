import java.io.IOException;
import java.lang.reflect.Method;
import java.nio.file.Files;
import java.nio.file.Path;
import java.util.regex.Matcher;
import java.util.regex.Pattern;

/** Each call of the example in README.md answers the number that is written behind it. */
public final class ReadmeTest {
    private static final Pattern CALL = Pattern.compile("map\\.(\\w+)\\(([-0-9, ]*)\\); +// (-?\\d+).*");
    private static final Pattern MAKE = Pattern.compile("FlashMap map = new FlashMap\\((\\d+)\\);.*");

    private static Object answer(FlashMap map, String name, String arguments) throws ReflectiveOperationException {
        String[] words = arguments.isEmpty() ? new String[0] : arguments.split(", ");
        Class<?>[] types = new Class<?>[words.length];
        Object[] numbers = new Object[words.length];
        for (int i = 0; i < words.length; i++) {
            types[i] = int.class;
            numbers[i] = Integer.valueOf(words[i]);
        }
        Method method = FlashMap.class.getMethod(name, types);
        return method.invoke(map, numbers);
    }

    public static void main(String[] args) throws IOException, ReflectiveOperationException {
        FlashMap map = new FlashMap(1);
        int calls = 0;
        int wrong = 0;
        for (String line : Files.readAllLines(Path.of("README.md"))) {
            Matcher make = MAKE.matcher(line);
            Matcher call = CALL.matcher(line);
            if (make.matches()) {
                map = new FlashMap(Integer.parseInt(make.group(1)));
            } else if (call.matches()) {
                calls++;
                String got = answer(map, call.group(1), call.group(2)).toString();
                if (!got.equals(call.group(3))) {
                    wrong++;
                    System.out.println(line + " <- answered " + got);
                }
            } else if (line.startsWith("map.")) {
                wrong++;
                System.out.println(line + " <- isn't a call with its answer behind it");
            }
        }
        boolean good = wrong == 0 && calls > 0;
        System.out.println(good ? calls + " calls of README.md: as written" : "README.md: " + wrong + " wrong of " + calls);
        if (!good) {
            System.exit(1);
        }
    }
}
