import java.io.IOException;
import java.lang.reflect.Constructor;
import java.lang.reflect.Field;
import java.lang.reflect.Member;
import java.lang.reflect.Method;
import java.lang.reflect.Modifier;
import java.nio.charset.StandardCharsets;
import java.nio.file.Files;
import java.nio.file.Path;
import java.util.ArrayList;
import java.util.HashSet;
import java.util.List;
import java.util.Set;
import java.util.TreeSet;
import java.util.regex.Matcher;
import java.util.regex.Pattern;

/** Holds the class against the rules of ../shared/LANGUAGE.md that can be told from outside. */
public final class LanguageTest {
  private static int wrong = 0;
  private static final String FACE = "word(II) wordOf(I) box(IIZ) set(II) state(I) felt(I) hours(I) command(III) sent() heard(I)"
      + " start() suspect(II) put(I) unput() fits(II) fitting(II) feed(IJ) rule() holds(I) broken(II) ask(III) safe(III)"
      + " parts(III) best(II) hole(II) fewest(I) keep(I) warm(I) aim() unlike(I) image() on() count(I)";

  private static void fault(int rule, String what) {
    wrong++;
    System.out.println("rule " + rule + ": " + what);
  }

  public static void main(String[] args) throws IOException {
    String source = Files.readString(Path.of("src/main/java/FarMachine.java"), StandardCharsets.ISO_8859_1);
    String code = source.replaceAll("(?s)/\\*.*?\\*/", "").replaceAll("//[^\n]*", "");
    face();
    members();
    words(code);
    methods(code);
    if (wrong != 0) {
      System.exit(1);
    }
    System.out.println("the class keeps to the rules that can be told from outside");
  }

  private static void face() {
    Set<String> got = new TreeSet<>();
    for (Method m : FarMachine.class.getDeclaredMethods()) {
      if (!Modifier.isPrivate(m.getModifiers())) {
        StringBuilder name = new StringBuilder(m.getName()).append('(');
        for (Class<?> c : m.getParameterTypes()) {
          name.append(c.descriptorString());
        }
        got.add(name.append(')').toString());
        if (m.getReturnType() != int.class || m.getModifiers() != Modifier.PUBLIC) {
          fault(1, m + " is not public int");
        }
      }
    }
    if (!got.equals(new TreeSet<>(List.of(FACE.split(" "))))) {
      fault(1, "the face is " + got);
    }
    if (FarMachine.class.getModifiers() != (Modifier.PUBLIC | Modifier.FINAL)) {
      fault(1, "the class is not public and final");
    }
    Constructor<?>[] made = FarMachine.class.getDeclaredConstructors();
    if (made.length != 1 || made[0].getModifiers() != Modifier.PUBLIC || made[0].getParameterCount() != 0) {
      fault(1, "the constructor");
    }
    for (Field f : FarMachine.class.getDeclaredFields()) {
      if (!Modifier.isPrivate(f.getModifiers())) {
        fault(1, f + " is not private");
      }
    }
  }

  private static void members() {
    Set<String> face = new HashSet<>();
    for (String call : FACE.split(" ")) {
      face.add(call.substring(0, call.indexOf('(')));
    }
    List<Class<?>> all = new ArrayList<>(List.of(FarMachine.class.getDeclaredClasses()));
    if (all.size() > 11) {
      fault(11, all.size() + " classes inside");
    }
    for (Class<?> inside : all) {
      if (!Modifier.isStatic(inside.getModifiers()) || Modifier.isPublic(inside.getModifiers())) {
        fault(2, inside + " is not static and inside");
      }
      for (Method m : inside.getDeclaredMethods()) {
        if (face.contains(m.getName())) {
          fault(1, m + " bears the name of a public one");
        }
      }
    }
    all.add(FarMachine.class);
    for (Class<?> c : all) {
      int fields = 0;
      for (Field f : c.getDeclaredFields()) {
        fields += Modifier.isStatic(f.getModifiers()) ? 0 : 1;
        if (Modifier.isStatic(f.getModifiers()) && !Modifier.isFinal(f.getModifiers())) {
          fault(5, f + " is not final");
        }
      }
      if (fields > 20) {
        fault(11, c + " has " + fields + " fields");
      }
      for (Method m : c.getDeclaredMethods()) {
        if (m.getParameterCount() > 7) {
          fault(11, m + " takes too many");
        }
        if (isMade(m)) {
          fault(2, m + " was made by the compiler");
        }
      }
    }
  }

  private static boolean isMade(Member m) {
    return m.isSynthetic();
  }

  private static void words(String code) {
    String[] never = {"throw", "throws", "try", "catch", "finally", "synchronized", "assert", "import", "package",
        "volatile", "transient", "native", "protected", "instanceof", "Exact", "Exception", "System\\.(?!arraycopy)\\w+",
        "Thread", "Random", "hashCode", "yield", "goto", "->", "::", "@", "while *\\(true", "for *\\(;;", "double", "float"};
    for (String word : never) {
      String pattern = word.matches("[A-Za-z]+") ? "\\b" + word + "\\b" : word;
      if (Pattern.compile(pattern).matcher(code).find()) {
        fault(6, "the text has " + word);
      }
    }
    if (Pattern.compile("\" *\\+|\\+ *\"").matcher(code).find()) {
      fault(10, "texts are joined by +");
    }
    for (int i = 0; i < code.length(); i++) {
      if (code.charAt(i) > 126) {
        fault(4, "a sign above 126");
      }
    }
  }

  private static void methods(String code) {
    String[] lines = code.split("\n");
    Pattern head = Pattern.compile("^( {2}| {4})(public|private|static|final|int|long|boolean|void|[A-Z]\\w+).*\\) \\{$");
    for (int i = 0; i < lines.length; i++) {
      Matcher m = head.matcher(lines[i]);
      if (m.find()) {
        int end = i;
        while (end < lines.length && !lines[end].equals(m.group(1) + "}")) {
          end++;
        }
        if (end - i > 60) {
          fault(11, lines[i].trim() + " has " + (end - i) + " lines");
        }
      }
    }
  }
}
