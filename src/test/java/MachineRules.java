import java.io.ByteArrayInputStream;
import java.io.DataInputStream;
import java.io.IOException;
import java.io.InputStream;
import java.util.Map;
import java.util.Set;
import java.util.TreeMap;
import java.util.TreeSet;

/**
 * What of ../shared/LANGUAGE.md can be seen in the compiled classes: nothing is thrown, caught or cast, objects are made
 * by makers alone, the library's calls are those of the rules, recursion is where it is known, other calls are not deep.
 */
public final class MachineRules {
  private static final int DEEPEST = 8;
  private static final Set<String> LIBRARY = Set.of(
      "java/lang/Object.<init>", "java/lang/System.arraycopy", "java/lang/Math.max", "java/lang/Math.min",
      "java/lang/Math.floorDiv", "java/lang/Integer.bitCount", "java/lang/Integer.numberOfTrailingZeros",
      "java/lang/Long.bitCount");
  private static final Set<String> RECURSION = Set.of(
      "EverySecondWord$Mind.deedAt", "EverySecondWord$Mind.bestDeed", "EverySecondWord$Mind.weigh",
      "EverySecondWord$Mind.endFrom", "EverySecondWord$Mind.endAfter", "EverySecondWord$Mind.dreamFrom",
      "EverySecondWord$Mind.dreamAfter");
  private static final Due due = new Due();

  /** Each method, and what it calls. */
  private static final Map<String, TreeSet<String>> CALLS = new TreeMap<>();
  private static final Set<String> PRIVATE = new TreeSet<>();

  public static void main(String[] args) throws IOException {
    read(EverySecondWord.class);
    for (Class<?> c : EverySecondWord.class.getDeclaredClasses()) {
      read(c);
    }
    due.is("more than a hundred methods were read", CALLS.size() > 100 ? 1 : 0, 1);
    Set<String> recursive = new TreeSet<>();
    for (String method : CALLS.keySet()) {
      if (reaches(method, method, new TreeSet<>())) {
        recursive.add(method);
        due.is(method + " is recursion and private", PRIVATE.contains(method) ? 1 : 0, 1);
      }
    }
    due.same("all recursion", recursive.toString(), new TreeSet<>(RECURSION).toString());
    for (String method : CALLS.keySet()) {
      int depth = depth(method, recursive);
      due.is("calls open at once from " + method + ", above " + DEEPEST, Math.max(depth, DEEPEST), DEEPEST);
    }
    due.close("MachineRules");
  }

  private static boolean reaches(String from, String to, Set<String> seen) {
    for (String next : CALLS.getOrDefault(from, new TreeSet<>())) {
      if (next.equals(to) || seen.add(next) && reaches(next, to, seen)) {
        return true;
      }
    }
    return false;
  }

  /** Of calls that are no recursion: a walk ends where recursion begins. */
  private static int depth(String method, Set<String> recursive) {
    int deepest = 0;
    if (!recursive.contains(method)) {
      for (String next : CALLS.getOrDefault(method, new TreeSet<>())) {
        deepest = Math.max(deepest, depth(next, recursive));
      }
    }
    return deepest + 1;
  }

  // ---- a class as it is compiled ----

  private static void read(Class<?> c) throws IOException {
    try (InputStream file = c.getResourceAsStream("/" + c.getName() + ".class")) {
      new Compiled(c.getName(), new DataInputStream(new ByteArrayInputStream(file.readAllBytes()))).methods();
    }
  }

  private static final class Compiled {
    private static final int NEW = 187;
    private static final int NEWARRAY = 188;
    private static final int ANEWARRAY = 189;
    private static final int ATHROW = 191;
    private static final int CHECKCAST = 192;
    private static final int MULTIANEWARRAY = 197;
    private static final int INVOKEDYNAMIC = 186;
    private final String name;
    private final DataInputStream in;
    private final String[] texts;
    private final int[] first;
    private final int[] second;

    /** What stands ahead of the methods. */
    Compiled(String name, DataInputStream in) throws IOException {
      this.name = name;
      this.in = in;
      in.skipBytes(8);
      int constants = in.readUnsignedShort();
      texts = new String[constants];
      first = new int[constants];
      second = new int[constants];
      for (int i = 1; i < constants; i++) {
        i += constant(i);
      }
      in.skipBytes(6);
      in.skipBytes(2 * in.readUnsignedShort());
      for (int fields = in.readUnsignedShort(); fields > 0; fields--) {
        in.skipBytes(6);
        skipAttributes();
      }
    }

    /** How many places more than one it takes. */
    private int constant(int i) throws IOException {
      int tag = in.readUnsignedByte();
      switch (tag) {
        case 1:
          texts[i] = in.readUTF();
          return 0;
        case 3, 4:
          in.readInt();
          return 0;
        case 5, 6:
          in.readLong();
          return 1;
        case 7, 8, 16, 19, 20:
          first[i] = in.readUnsignedShort();
          return 0;
        case 15:
          in.readUnsignedByte();
          in.readUnsignedShort();
          return 0;
        default:
          first[i] = in.readUnsignedShort();
          second[i] = in.readUnsignedShort();
          return 0;
      }
    }

    private void skipAttributes() throws IOException {
      for (int attributes = in.readUnsignedShort(); attributes > 0; attributes--) {
        in.readUnsignedShort();
        in.skipNBytes(in.readInt());
      }
    }

    void methods() throws IOException {
      for (int methods = in.readUnsignedShort(); methods > 0; methods--) {
        int access = in.readUnsignedShort();
        String method = name + "." + texts[in.readUnsignedShort()];
        in.readUnsignedShort();
        due.is(method + " has a name of its own", CALLS.put(method, new TreeSet<>()) == null ? 1 : 0, 1);
        if ((access & 2) != 0) {
          PRIVATE.add(method);
        }
        for (int attributes = in.readUnsignedShort(); attributes > 0; attributes--) {
          boolean isCode = "Code".equals(texts[in.readUnsignedShort()]);
          int length = in.readInt();
          if (isCode) {
            code(method);
          } else {
            in.skipNBytes(length);
          }
        }
      }
    }

    private void code(String method) throws IOException {
      in.readInt();
      byte[] code = new byte[in.readInt()];
      in.readFully(code);
      int caught = in.readUnsignedShort();
      due.is(method + " catches", caught, 0);
      in.skipBytes(8 * caught);
      skipAttributes();
      for (int at = 0; at < code.length; at += length(code, at)) {
        look(method, code[at] & 255, at + 2 < code.length ? twoBytes(code, at + 1) : 0);
      }
    }

    private void look(String method, int op, int constant) {
      boolean making = op == NEW || op == NEWARRAY || op == ANEWARRAY || op == MULTIANEWARRAY;
      boolean isMaker = method.endsWith("init>");
      due.is(method + " makes an object and is no maker", making && !isMaker ? 1 : 0, 0);
      due.is(method + " throws, casts or joins by " + op, op == ATHROW || op == CHECKCAST || op == INVOKEDYNAMIC ? 1 : 0, 0);
      if (op >= 182 && op <= 185) {
        String called = texts[first[first[constant]]] + "." + texts[first[second[constant]]];
        if (called.startsWith("EverySecondWord")) {
          CALLS.get(method).add(called);
        } else {
          due.is(method + " calls what the rules list: " + called, LIBRARY.contains(called) ? 1 : 0, 1);
        }
      }
    }

    private static int length(byte[] code, int at) {
      int op = code[at] & 255;
      if (op == 170 || op == 171) {
        int from = (at | 3) + 1;
        int pairs = op == 171 ? 2 * fourBytes(code, from + 4) : fourBytes(code, from + 8) - fourBytes(code, from + 4) + 2;
        return from + 8 + 4 * pairs - at;
      }
      if (op == 196) {
        return (code[at + 1] & 255) == 132 ? 6 : 4;
      }
      if (op == 16 || op == 18 || op >= 21 && op <= 25 || op >= 54 && op <= 58 || op == 169 || op == NEWARRAY) {
        return 2;
      }
      if (op == 185 || op == INVOKEDYNAMIC || op == 200 || op == 201) {
        return 5;
      }
      boolean three = op == 17 || op == 19 || op == 20 || op == 132 || op >= 153 && op <= 168 || op >= 178 && op <= 184
          || op == NEW || op == ANEWARRAY || op == CHECKCAST || op == 193 || op == 198 || op == 199;
      return three ? 3 : op == MULTIANEWARRAY ? 4 : 1;
    }

    private static int twoBytes(byte[] code, int at) {
      return (code[at] & 255) << 8 | code[at + 1] & 255;
    }

    private static int fourBytes(byte[] code, int at) {
      return twoBytes(code, at) << 16 | twoBytes(code, at + 2);
    }
  }
}
