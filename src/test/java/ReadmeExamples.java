import java.io.IOException;
import java.lang.reflect.InvocationTargetException;
import java.lang.reflect.Method;
import java.nio.file.Files;
import java.nio.file.Path;
import java.util.ArrayList;
import java.util.List;
import java.util.regex.Matcher;
import java.util.regex.Pattern;

/** Every call that README.md shows answers what stands behind it there. It is run from the project's folder. */
public final class ReadmeExamples {
    private static final Pattern CALL = Pattern.compile("x\\.(\\w+)\\(([-0-9, ]*)\\);\\s+// ([-\\w]+): .*");
    private static final Pattern TOLD = Pattern.compile("tell\\(x, \"([a-z; ]*)\"\\);");
    private static final String MADE = "MeetingNets x = new MeetingNets();";
    private static final int CALLS_LEAST = 40;
    private static int wrong;
    private static int calls;

    public static void main(String[] args) throws IOException {
        List<String> here = Files.readAllLines(Path.of("src/test/java/ReadmeExamples.java"));
        List<List<String>> blocks = javaBlocks(Files.readAllLines(Path.of("README.md")));
        for (List<String> block : blocks) {
            if (block.get(0).equals(MADE)) {
                run(block);
            } else {
                // the way to tell a text is shown as it is done below
                hold(standsIn(here, block), "a block that is not of this test: " + block.get(0));
            }
        }
        hold(calls >= CALLS_LEAST, "the examples were not found: " + calls + " calls");
        System.out.println(calls + " calls of README.md, " + wrong + " wrong");
        if (wrong != 0) {
            System.exit(1);
        }
    }

    private static void hold(boolean held, String words) {
        if (!held) {
            wrong++;
            System.out.println(words);
        }
    }

    private static List<List<String>> javaBlocks(List<String> lines) {
        List<List<String>> blocks = new ArrayList<>();
        List<String> block = null;
        for (String line : lines) {
            if (line.equals("```java")) {
                block = new ArrayList<>();
            } else if (line.equals("```") && block != null) {
                blocks.add(block);
                block = null;
            } else if (block != null) {
                block.add(line);
            }
        }
        return blocks;
    }

    private static boolean standsIn(List<String> lines, List<String> block) {
        for (int from = 0; from + block.size() <= lines.size(); from++) {
            int k = 0;
            while (k < block.size() && lines.get(from + k).endsWith(block.get(k).strip())) {
                k++;
            }
            if (k == block.size()) {
                return true;
            }
        }
        return false;
    }

    private static void run(List<String> block) {
        MeetingNets x = new MeetingNets();
        for (String line : block.subList(1, block.size())) {
            Matcher call = CALL.matcher(line);
            Matcher told = TOLD.matcher(line);
            if (call.matches()) {
                String got = answer(x, call.group(1), numbers(call.group(2)));
                hold(got.equals(call.group(3)), "answered " + got + ": " + line);
                calls++;
            } else if (told.matches()) {
                tell(x, told.group(1));
            } else {
                hold(false, "no call with its answer: " + line);
            }
        }
    }

    private static Object[] numbers(String words) {
        List<Object> numbers = new ArrayList<>();
        for (String word : words.split(",")) {
            if (!word.isBlank()) {
                numbers.add(Integer.valueOf(word.strip()));
            }
        }
        return numbers.toArray();
    }

    private static String answer(MeetingNets x, String name, Object[] numbers) {
        for (Method m : MeetingNets.class.getMethods()) {
            if (m.getName().equals(name) && m.getParameterCount() == numbers.length) {
                try {
                    return String.valueOf(m.invoke(x, numbers));
                } catch (InvocationTargetException e) {
                    return e.getCause().getClass().getSimpleName();
                } catch (IllegalAccessException e) {
                    return "hidden";
                }
            }
        }
        return "no such call";
    }

    private static void tell(MeetingNets x, String text) {
        x.end(0);
        for (int from = 0; from < text.length(); from += 20) {
            int[] five = new int[5];
            for (int k = 0; k < 20; k++) {
                int sign = from + k < text.length() ? text.charAt(from + k) : 0;
                five[k / 4] = five[k / 4] << 8 | sign;
            }
            x.feed(five[0], five[1], five[2], five[3], five[4]);
        }
        x.end(text.length());
    }
}
