import java.lang.reflect.Method;
import java.util.ArrayList;
import java.util.Arrays;
import java.util.Comparator;
import java.util.List;
import java.util.Random;

/** Runs of calls by seeds: every answer of the program is held against the naive telling of the document. */
public final class RandomRuns {
  private static final int CALLS = 512;
  private static int wrong = 0;
  private static long answers = 0;

  public static void main(String[] args) throws Exception {
    int first = args.length > 0 ? Integer.parseInt(args[0]) : 1;
    int runs = args.length > 1 ? Integer.parseInt(args[1]) : 400;
    List<Method> face = new ArrayList<>();
    for (Method m : EverySecondWord.class.getDeclaredMethods()) {
      if (java.lang.reflect.Modifier.isPublic(m.getModifiers())) {
        face.add(m);
      }
    }
    face.sort(Comparator.comparing(Method::getName));
    for (int run = first; run < first + runs && wrong == 0; run++) {
      new Run(run, face).go();
    }
    System.out.println("RandomRuns: " + answers + " answers, " + wrong + " not as due");
    if (wrong != 0 || face.size() != 43 - 1) {
      System.exit(1);
    }
  }

  private static final class Run {
    private final int seed;
    private final Random random;
    private final List<Method> face;
    private final EverySecondWord program = new EverySecondWord();
    private final Naive naive = new Naive();
    private final StringBuilder log = new StringBuilder();
    private int calls = 0;

    Run(int seed, List<Method> face) {
      this.seed = seed;
      this.random = new Random(seed);
      this.face = face;
    }

    void go() throws Exception {
      feed(rules());
      call("tongue");
      for (int i = random.nextInt(3); i > 0; i--) {
        feed(moreRules());
        call("tongue");
      }
      feed(people());
      call("tongue");
      while (calls < CALLS && wrong == 0) {
        int dice = random.nextInt(100);
        if (dice < 3) {
          call("anew");
          feed(random.nextInt(3) == 0 ? broken(random.nextBoolean() ? rules() : people()) : statement() + statement());
          call("tongue");
        } else if (dice < 25) {
          call(new String[] {"say", "goes", "goes", "stop", "back"}[random.nextInt(5)]);
        } else {
          Method m = face.get(random.nextInt(face.size()));
          call(m.getName());
        }
      }
    }

    private void feed(String text) throws Exception {
      for (int i = 0; i < text.length(); i++) {
        invoke("feed", (int) text.charAt(i));
      }
    }

    private String rules() {
      StringBuilder s = new StringBuilder();
      int states = 1 + random.nextInt(5);
      int words = 1 + random.nextInt(4);
      if (random.nextBoolean()) {
        s.append('l').append(1 + random.nextInt(8)).append(';');
      }
      for (int state = 0; state < states; state++) {
        if (random.nextInt(3) == 0) {
          s.append('e').append(state).append(';');
        }
      }
      for (int i = 0; i < 14 && s.length() < 58; i++) {
        String head = "r" + random.nextInt(states) + (char) ('a' + random.nextInt(words));
        if (s.indexOf(head) < 0) {
          s.append(head).append(random.nextInt(states));
          s.append(random.nextInt(4) == 0 ? "" : "" + (char) ('A' + random.nextInt(4))).append(';');
        }
      }
      return s.toString();
    }

    /** Rules from states of their own, so that most of them stand. */
    private String moreRules() {
      StringBuilder s = new StringBuilder();
      int state = random.nextInt(8);
      for (int i = 0; i < 10; i++) {
        String head = "r" + (state + i / 4) % 8 + (char) ('a' + i % 4);
        if (naive.count(0) == 0 || !has((state + i / 4) % 8, i % 4)) {
          s.append(head).append(random.nextInt(8)).append((char) ('A' + random.nextInt(6))).append(';');
        }
      }
      return s.toString();
    }

    private boolean has(int from, int word) {
      for (int i = 0; i < naive.count(0); i++) {
        if (naive.rule(i, 0) == from && naive.rule(i, 1) == word) {
          return true;
        }
      }
      return false;
    }

    private String people() {
      StringBuilder s = new StringBuilder();
      int people = 1 + random.nextInt(4);
      for (int i = 0; i < people; i++) {
        s.append('p').append(random.nextInt(7));
        for (char c = 'a'; c <= 'd'; c++) {
          s.append(random.nextInt(5) == 0 ? "" : "" + c);
        }
        s.append(';');
      }
      while (s.length() < 58) {
        s.append('v').append(random.nextInt(people)).append((char) ('A' + random.nextInt(4)));
        s.append(random.nextInt(3) == 0 ? '-' : '+').append(random.nextInt(10)).append(';');
      }
      return s.toString();
    }

    private String statement() {
      switch (random.nextInt(5)) {
        case 0:
          return "r" + random.nextInt(9) + (char) ('a' + random.nextInt(8)) + random.nextInt(9)
              + (random.nextBoolean() ? "" : "" + (char) ('A' + random.nextInt(6))) + ";";
        case 1:
          return "e" + random.nextInt(9) + ";";
        case 2:
          return "p" + random.nextInt(8) + (random.nextBoolean() ? "ab" : "") + ";";
        case 3:
          return "v" + random.nextInt(5) + (char) ('A' + random.nextInt(6)) + "+" + random.nextInt(10) + ";";
        default:
          return "l" + random.nextInt(10) + ";";
      }
    }

    private String broken(String text) {
      StringBuilder s = new StringBuilder(text);
      String letters = "revpl0123456789abcdefghABCDEF+-;ixG ";
      int place = s.length() == 0 ? 0 : random.nextInt(s.length());
      char c = letters.charAt(random.nextInt(letters.length()));
      if (random.nextInt(3) == 0) {
        s.setLength(place);
      } else if (random.nextBoolean() && place < s.length()) {
        s.setCharAt(place, c);
      } else {
        s.insert(place, c);
      }
      return s.toString();
    }

    private void call(String name) throws Exception {
      for (Method m : face) {
        if (m.getName().equals(name)) {
          Class<?>[] kinds = m.getParameterTypes();
          Object[] given = new Object[kinds.length];
          for (int i = 0; i < kinds.length; i++) {
            given[i] = kinds[i] == boolean.class ? (Object) random.nextBoolean() : (Object) number(name, i);
          }
          invoke(name, given);
          return;
        }
      }
    }

    private int number(String name, int i) {
      if (random.nextInt(60) == 0) {
        int[] wild = {Integer.MIN_VALUE, Integer.MAX_VALUE, -1, -2, 1000, 64, 256, -10, 24, 100};
        return wild[random.nextInt(wild.length)];
      }
      switch (name + i) {
        case "order0":
          return new int[] {0, 10, 1, 210, 120, 12, 3210, 123, 1230, 2301, 102, 3012}[random.nextInt(12)];
        case "feed0":
          return random.nextInt(128);
        case "values2":
          return random.nextInt(21) - 10;
        case "set1":
          return random.nextInt(10);
        case "seeds1":
          return random.nextInt(23);
        case "seeds2":
          return random.nextInt();
        case "count0":
          return random.nextInt(19) - 1;
        case "rule0":
          return random.nextInt(26) - 1;
        case "set0":
          return random.nextInt(3);
        case "meanings0":
          return random.nextInt(10) - 2;
        default:
          return random.nextInt(random.nextInt(8) == 0 ? 9 : 4);
      }
    }

    private void invoke(String name, Object... given) throws Exception {
      if (calls >= CALLS) {
        return;
      }
      calls++;
      answers++;
      Class<?>[] kinds = new Class<?>[given.length];
      for (int i = 0; i < given.length; i++) {
        kinds[i] = given[i] instanceof Boolean ? boolean.class : int.class;
      }
      Object got = EverySecondWord.class.getMethod(name, kinds).invoke(program, given);
      Object want = Naive.class.getMethod(name, kinds).invoke(naive, given);
      log.append(name).append(Arrays.toString(given)).append(" = ").append(want).append('\n');
      if (!got.equals(want)) {
        wrong++;
        System.out.print("run " + seed + ":\n" + log);
        System.out.println("the last answered " + got + ", due is " + want);
      }
    }
  }
}
