import java.io.IOException;
import java.lang.reflect.Method;
import java.lang.reflect.Modifier;
import java.nio.file.Files;
import java.nio.file.Path;
import java.util.Arrays;
import java.util.Objects;
import java.util.Set;
import java.util.TreeSet;
import java.util.regex.Matcher;
import java.util.regex.Pattern;

// What README.md shows under "Use" is so: its calls are made, one after the other, on one object.
public final class ReadmeTest {
    private static final Pattern LINE = Pattern.compile("swap\\.(\\w+)\\(([-\\d, ]*)\\); +// (no answer|BAD_ARG|NONE|-?\\d+)\\b.*");

    private static int wrong = 0;

    private static void check(boolean holds, String what) {
        if (!holds) {
            wrong++;
            System.out.println("not so: " + what);
        }
    }

    private static int[] numbers(String list) {
        return Pattern.compile(",").splitAsStream(list).map(String::trim).filter(s -> !s.isEmpty())
            .mapToInt(Integer::parseInt).toArray();
    }

    private static Object written(String answer) {
        return switch (answer) {
            case "no answer" -> null;
            case "BAD_ARG" -> -1;
            case "NONE" -> -4;
            default -> Integer.parseInt(answer);
        };
    }

    private static Object answer(CompressedSwap swap, String name, int[] args) throws ReflectiveOperationException {
        Class<?>[] types = new Class<?>[args.length];
        Arrays.fill(types, int.class);
        Method method = CompressedSwap.class.getMethod(name, types);
        return method.invoke(swap, Arrays.stream(args).boxed().toArray());
    }

    private static Set<String> callsOfTheClass() {
        Set<String> names = new TreeSet<>();
        for (Method method : CompressedSwap.class.getDeclaredMethods()) {
            if (Modifier.isPublic(method.getModifiers())) {
                names.add(method.getName());
            }
        }
        return names;
    }

    private static void checkLine(CompressedSwap swap, String line, Set<String> shown) throws ReflectiveOperationException {
        Matcher parts = LINE.matcher(line);
        if (!parts.matches()) {
            check(false, "a call with its answer: " + line);
            return;
        }
        Object got = answer(swap, parts.group(1), numbers(parts.group(2)));
        check(Objects.equals(got, written(parts.group(3))), "the class answers " + got + ": " + line);
        shown.add(parts.group(1));
    }

    public static void main(String[] args) throws IOException, ReflectiveOperationException {
        CompressedSwap swap = new CompressedSwap();
        Set<String> shown = new TreeSet<>();
        for (String line : Files.readAllLines(Path.of("README.md"))) {
            if (line.startsWith("swap.")) {
                checkLine(swap, line, shown);
            }
        }
        check(shown.equals(callsOfTheClass()), "README.md shows every call, seen: " + shown);
        System.out.println(wrong == 0 ? "README.md is as the class is" : wrong + " things are not as README.md says");
        if (wrong != 0) {
            System.exit(1);
        }
    }
}
