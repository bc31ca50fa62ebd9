import java.io.DataInputStream;
import java.io.IOException;
import java.io.InputStream;
import java.nio.ByteBuffer;
import java.util.ArrayList;
import java.util.HashMap;
import java.util.HashSet;
import java.util.List;
import java.util.Map;
import java.util.Set;
import java.util.TreeMap;
import java.util.TreeSet;

/**
 * Holds the compiled class against those rules of ../shared/LANGUAGE.md that its text does not show
 * at once: what it calls of the library (4), that it throws and catches nothing (6), that calls go at
 * most eight deep (11). Recursion, which rule 8 allows within bounds, the class has none of.
 */
public final class CompiledRulesTest {
  private static final String MAIN = "FarMachine";
  private static final int MOST_DEEP = 8;
  private static final Set<String> LIBRARY = Set.of("java/lang/Object.<init>()V", "java/lang/Math.max(II)I",
      "java/lang/Math.min(II)I", "java/lang/Math.abs(I)I", "java/lang/Integer.bitCount(I)I",
      "java/lang/String.indexOf(I)I", "java/lang/System.arraycopy(Ljava/lang/Object;ILjava/lang/Object;II)V");

  private static final int TABLESWITCH = 170;
  private static final int LOOKUPSWITCH = 171;
  private static final int FIRST_INVOKE = 182;
  private static final int INVOKEDYNAMIC = 186;
  private static final int ATHROW = 191;
  private static final int WIDE = 196;
  private static final int IINC = 132;
  /** How many bytes stand behind each other opcode: of 0 .. 201, a digit each. */
  private static final String BEHIND = "0".repeat(16) + "12122" + "11111" + "0".repeat(28) + "11111" + "0".repeat(73) + "2"
      + "0".repeat(20) + "2".repeat(16) + "1" + "00" + "0".repeat(6) + "22222224" + "4212" + "0022" + "00" + "032244";

  private static final Map<String, Set<String>> calls = new TreeMap<>();
  private static int wrong = 0;

  private static void fault(int rule, String what) {
    wrong++;
    System.out.println("rule " + rule + ": " + what);
  }

  public static void main(String[] args) throws IOException {
    if (BEHIND.length() != 202) {
      throw new IllegalStateException("the table has " + BEHIND.length() + " opcodes");
    }
    List<Class<?>> all = new ArrayList<>(List.of(FarMachine.class));
    all.addAll(List.of(FarMachine.class.getDeclaredClasses()));
    for (Class<?> c : all) {
      new Compiled(c).read();
    }
    library();
    depths();
    if (wrong != 0) {
      System.exit(1);
    }
    System.out.println("the compiled class keeps to rules 4, 6, 8 and 11, of " + calls.size() + " methods");
  }

  private static boolean isOwn(String method) {
    return method.startsWith(MAIN + ".") || method.startsWith(MAIN + "$");
  }

  private static void library() {
    Set<String> used = new TreeSet<>();
    for (Set<String> called : calls.values()) {
      for (String method : called) {
        if (!isOwn(method)) {
          used.add(method);
        }
      }
    }
    used.removeAll(LIBRARY);
    for (String method : used) {
      fault(4, "the class calls " + method);
    }
  }

  private static void depths() {
    Map<String, Integer> known = new HashMap<>();
    for (String method : calls.keySet()) {
      int deep = depthOf(method, known, new HashSet<>());
      if (deep > MOST_DEEP) {
        fault(11, method + " goes " + deep + " deep");
      }
    }
  }

  private static int depthOf(String method, Map<String, Integer> known, Set<String> open) {
    if (known.containsKey(method)) {
      return known.get(method);
    }
    if (!open.add(method)) {
      fault(8, method + " calls itself");
      return 0;
    }
    int most = 0;
    for (String called : calls.getOrDefault(method, Set.of())) {
      most = Math.max(most, depthOf(called, known, open));
    }
    open.remove(method);
    known.put(method, most + 1);
    return most + 1;
  }

  /** One class file: what each of its methods calls goes into calls. */
  private static final class Compiled {
    private final String name;
    private final DataInputStream in;
    private Object[] pool;

    Compiled(Class<?> c) {
      name = c.getName();
      InputStream file = c.getResourceAsStream("/" + name + ".class");
      if (file == null) {
        throw new IllegalStateException("no class file of " + name);
      }
      in = new DataInputStream(file);
    }

    void read() throws IOException {
      in.skipNBytes(8);
      readPool();
      in.skipNBytes(6);
      in.skipNBytes(2L * in.readUnsignedShort());
      readMembers();
      readMembers();
      in.close();
    }

    /** Texts stay texts, what refers to others becomes the row of their places. */
    private void readPool() throws IOException {
      pool = new Object[in.readUnsignedShort()];
      for (int i = 1; i < pool.length; i++) {
        int tag = in.readUnsignedByte();
        switch (tag) {
          case 1: pool[i] = in.readUTF(); break;
          case 3: case 4: in.skipNBytes(4); break;
          case 5: case 6: in.skipNBytes(8); i++; break;
          case 7: case 8: case 16: case 19: case 20: pool[i] = new int[] {in.readUnsignedShort()}; break;
          case 15: in.skipNBytes(3); break;
          default: pool[i] = new int[] {in.readUnsignedShort(), in.readUnsignedShort()}; break;
        }
      }
    }

    private String text(int at) {
      return (String) pool[at];
    }

    private String methodAt(int at) {
      int[] method = (int[]) pool[at];
      int[] of = (int[]) pool[method[0]];
      int[] what = (int[]) pool[method[1]];
      return text(of[0]) + "." + text(what[0]) + text(what[1]);
    }

    private void readMembers() throws IOException {
      int many = in.readUnsignedShort();
      for (int i = 0; i < many; i++) {
        in.skipNBytes(2);
        String member = name + "." + text(in.readUnsignedShort()) + text(in.readUnsignedShort());
        int attributes = in.readUnsignedShort();
        for (int j = 0; j < attributes; j++) {
          boolean code = text(in.readUnsignedShort()).equals("Code");
          byte[] bytes = new byte[in.readInt()];
          in.readFully(bytes);
          if (code) {
            readCode(member, ByteBuffer.wrap(bytes));
          }
        }
      }
    }

    private void readCode(String member, ByteBuffer code) {
      Set<String> called = new TreeSet<>();
      int start = 8;
      int end = start + code.getInt(4);
      int at = start;
      while (at < end) {
        int op = code.get(at) & 255;
        if (op >= FIRST_INVOKE && op < INVOKEDYNAMIC) {
          called.add(methodAt(code.getShort(at + 1) & 0xffff));
        } else if (op == INVOKEDYNAMIC) {
          fault(2, member + " has a lambda, or joins texts by +");
        } else if (op == ATHROW) {
          fault(6, member + " throws");
        }
        at += lengthAt(code, at, start);
      }
      if (code.getShort(end) != 0) {
        fault(6, member + " catches");
      }
      calls.put(member, called);
    }

    private static int lengthAt(ByteBuffer code, int at, int start) {
      int op = code.get(at) & 255;
      int padded = 4 - (at - start) % 4;
      if (op == TABLESWITCH) {
        return padded + 12 + 4 * (code.getInt(at + padded + 8) - code.getInt(at + padded + 4) + 1);
      }
      if (op == LOOKUPSWITCH) {
        return padded + 8 + 8 * code.getInt(at + padded + 4);
      }
      if (op == WIDE) {
        return (code.get(at + 1) & 255) == IINC ? 6 : 4;
      }
      return 1 + BEHIND.charAt(op) - '0';
    }
  }
}
