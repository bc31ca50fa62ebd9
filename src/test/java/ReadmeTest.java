import java.io.IOException;
import java.lang.reflect.Method;
import java.lang.reflect.Modifier;
import java.nio.charset.StandardCharsets;
import java.nio.file.Files;
import java.nio.file.Path;
import java.util.regex.Matcher;
import java.util.regex.Pattern;

/** Makes the calls of README.md's examples, in order on one object, and holds their answers against it. */
public final class ReadmeTest {
  private static final Pattern EXAMPLE = Pattern.compile("^far\\.(\\w+)\\((.*)\\); +// (-?\\d+)(:.*)?$");
  private static final int MOST_CALLS = 512;
  private static int wrong = 0;

  public static void main(String[] args) throws IOException, ReflectiveOperationException {
    String readme = Files.readString(Path.of("README.md"), StandardCharsets.UTF_8);
    int made = examples(readme);
    named(readme);
    if (made == 0 || made > MOST_CALLS) {
      fault("README.md has " + made + " examples");
    }
    if (wrong != 0) {
      System.exit(1);
    }
    System.out.println(made + " examples of README.md answer as it says");
  }

  private static void fault(String what) {
    wrong++;
    System.out.println(what);
  }

  private static int examples(String readme) throws ReflectiveOperationException {
    FarMachine far = new FarMachine();
    int made = 0;
    for (String line : readme.split("\n")) {
      Matcher example = EXAMPLE.matcher(line);
      if (example.matches()) {
        made++;
        int got = answer(far, example.group(1), example.group(2));
        if (got != Integer.parseInt(example.group(3))) {
          fault(line + " answered " + got);
        }
      } else if (line.startsWith("far.")) {
        fault(line + " is no example");
      }
    }
    return made;
  }

  private static int answer(FarMachine far, String name, String told) throws ReflectiveOperationException {
    Method call = callOf(name);
    Class<?>[] types = call.getParameterTypes();
    Object[] values = new Object[types.length];
    String[] texts = told.isEmpty() ? new String[0] : told.split(", ");
    if (texts.length != types.length) {
      throw new IllegalStateException(name + "(" + told + ") has not as many as it takes");
    }
    for (int i = 0; i < types.length; i++) {
      values[i] = valueOf(types[i], texts[i]);
    }
    return (Integer) call.invoke(far, values);
  }

  private static Method callOf(String name) {
    for (Method m : FarMachine.class.getDeclaredMethods()) {
      if (m.getName().equals(name) && Modifier.isPublic(m.getModifiers())) {
        return m;
      }
    }
    throw new IllegalStateException("there is no call " + name);
  }

  private static Object valueOf(Class<?> type, String text) {
    if (type == boolean.class) {
      return Boolean.valueOf(text);
    }
    if (type == long.class) {
      return Long.decode(text);
    }
    return Integer.decode(text);
  }

  /** How the class is used is told of each of its calls. */
  private static void named(String readme) {
    for (Method m : FarMachine.class.getDeclaredMethods()) {
      boolean told = readme.contains("far." + m.getName() + "(") || readme.contains("`" + m.getName() + "`");
      if (Modifier.isPublic(m.getModifiers()) && !told) {
        fault("README.md does not tell of " + m.getName());
      }
    }
  }
}
