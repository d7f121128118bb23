import java.io.IOException;
import java.lang.reflect.Constructor;
import java.lang.reflect.Field;
import java.lang.reflect.Method;
import java.lang.reflect.Modifier;
import java.nio.file.Files;
import java.nio.file.Path;
import java.util.TreeSet;
import java.util.regex.Matcher;
import java.util.regex.Pattern;

/** What of ../shared/LANGUAGE.md can be seen by a look at the file and at the class. */
public final class LanguageRules {
  private static final String[] FACE = {
    "feed(int)", "tongue()", "rule(int,int)", "end(int)", "person(int,int)", "worth(int,int)", "values(int,int,int)",
    "kind(int,int)", "word(int,int,boolean)", "set(int,int)", "order(int)", "say(int)", "stop()", "back()", "anew()",
    "talk(int)", "does()", "goes()", "ends(int)", "value(int)", "forces(int,int)", "keeps(int,int)", "sticks(int)",
    "holds(int)", "sure(int)", "meanings(int)", "canStick()", "begins(int)", "turns(int)", "buys(int)",
    "price(int,int)", "lacks(int,int)", "knows(int)", "as(int)", "least(int,int)", "kinds(int)", "row(int)", "judge()",
    "seeds(int,int,int)", "image()", "restore()", "count(int)"
  };
  private static final String[] BANNED = {
    "throw", "throws", "try", "catch", "finally", "synchronized", "assert", "protected", "import", "package", "native",
    "volatile", "transient", "yield", "var", "Object", "System\\.(?!arraycopy)\\w+", "Math\\.\\w*Exact", "->", "::",
    "equals", "hashCode", "toString", "Random", "Thread", "float", "double", "while\\s*\\(true\\)", "for\\s*\\(;;\\)",
    "new\\s+\\w+\\([^()]*\\)\\s*\\{", "goto", "strictfp", "instanceof", "String", "static\\s+\\{"
  };
  private static int wrong = 0;
  private static int checks = 0;

  public static void main(String[] args) throws IOException {
    face();
    for (Class<?> c : EverySecondWord.class.getDeclaredClasses()) {
      inside(c);
    }
    atMost("classes", 1 + EverySecondWord.class.getDeclaredClasses().length, 12);
    members(EverySecondWord.class);
    text(Files.readString(Path.of("src/main/java/EverySecondWord.java")));
    System.out.println("LanguageRules: " + checks + " looked at, " + wrong + " not as the rules ask");
    if (wrong != 0) {
      System.exit(1);
    }
  }

  private static void must(boolean holds, String rule) {
    checks++;
    if (!holds) {
      wrong++;
      System.out.println("not so: " + rule);
    }
  }

  private static void atMost(String what, int n, int most) {
    must(n <= most, what + ": " + n + ", at most " + most);
  }

  private static void face() {
    Class<?> c = EverySecondWord.class;
    must(Modifier.isPublic(c.getModifiers()) && Modifier.isFinal(c.getModifiers()), "the class is public and final");
    TreeSet<String> face = new TreeSet<>();
    for (Method m : c.getDeclaredMethods()) {
      if (Modifier.isPublic(m.getModifiers())) {
        must(m.getReturnType() == int.class && !Modifier.isStatic(m.getModifiers()), m + " answers an int");
        face.add(m.getName() + java.util.Arrays.toString(m.getParameterTypes())
            .replace('[', '(').replace(']', ')').replace(" ", ""));
      } else {
        must(Modifier.isPrivate(m.getModifiers()), m + " is private");
      }
    }
    must(face.equals(new TreeSet<>(java.util.List.of(FACE))), "the face is the document's: " + face);
    Constructor<?>[] made = c.getDeclaredConstructors();
    must(made.length == 1 && Modifier.isPublic(made[0].getModifiers()) && made[0].getParameterCount() == 0, "one maker");
    for (Field f : c.getDeclaredFields()) {
      must(Modifier.isPrivate(f.getModifiers()), f + " is private");
    }
  }

  private static void inside(Class<?> c) {
    int m = c.getModifiers();
    must(Modifier.isStatic(m) && Modifier.isPrivate(m) && Modifier.isFinal(m), c + " is private, static, final");
    must(c.getDeclaredClasses().length == 0, c + " has no classes inside");
    for (Method method : c.getDeclaredMethods()) {
      for (String name : FACE) {
        must(!name.startsWith(method.getName() + "("), method + " bears the name of a public one");
      }
    }
    members(c);
  }

  private static void members(Class<?> c) {
    int fields = 0;
    for (Field f : c.getDeclaredFields()) {
      boolean isStatic = Modifier.isStatic(f.getModifiers());
      fields += isStatic ? 0 : 1;
      must(!isStatic || Modifier.isFinal(f.getModifiers()), f + " is final");
    }
    atMost("fields of " + c, fields, 20);
    for (Method m : c.getDeclaredMethods()) {
      atMost("parameters of " + m, m.getParameterCount(), 7);
      if (c == EverySecondWord.class && Modifier.isPrivate(m.getModifiers())) {
        for (String name : FACE) {
          must(!name.startsWith(m.getName() + "("), m + " bears the name of a public one");
        }
      }
    }
  }

  private static void text(String source) {
    String bare = source.replaceAll("(?s)/\\*.*?\\*/", "").replaceAll("//[^\n]*", "").replaceAll("'[^'\\\\]'", "0");
    for (String banned : BANNED) {
      String edge = Character.isLetter(banned.charAt(0)) ? "\\b" : "";
      Matcher m = Pattern.compile(edge + banned + (edge.isEmpty() || banned.endsWith("}") ? "" : "(?!\\w)")).matcher(bare);
      must(!m.find(), "no " + banned);
    }
    must(source.chars().allMatch(ch -> ch == '\n' || ch >= 32 && ch < 127), "plain signs alone");
    methodsAreShort(source);
  }

  private static void methodsAreShort(String source) {
    int start = 0;
    int line = 0;
    for (String s : source.split("\n")) {
      line++;
      if (s.matches("( {2}| {4})(private|public|static|int|long|boolean|void).*\\) \\{")) {
        start = line;
      }
      if (s.matches("( {2}| {4})\\}")) {
        atMost("lines of the method at " + start, line - start, 60);
      }
      atMost("signs in line " + line, s.length(), 120);
    }
  }
}
