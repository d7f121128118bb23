import java.lang.reflect.Method;
import java.lang.reflect.Modifier;
import java.util.ArrayList;
import java.util.Comparator;
import java.util.List;
import java.util.Random;

/** Calls with any arguments in any state, and far more of them than are promised: none may throw. */
public final class WildCalls {
  private static final int[] WILD = {
    Integer.MIN_VALUE, Integer.MIN_VALUE + 1, Integer.MAX_VALUE, Integer.MAX_VALUE - 1, -1000000000, 1000000000,
    -65, -64, -33, -32, -10, -9, -8, -2, -1, 0, 1, 2, 3, 4, 5, 6, 7, 8, 9, 10, 20, 21, 23, 24, 31, 32, 63, 64, 255, 256,
    3210, 123, 210, 12
  };
  private static final String LETTERS = "rrrrrepppvl000111223456789abcdefghABCDEF+-;;;;";

  public static void main(String[] args) throws Exception {
    List<Method> face = new ArrayList<>();
    for (Method m : EverySecondWord.class.getDeclaredMethods()) {
      if (Modifier.isPublic(m.getModifiers())) {
        face.add(m);
      }
    }
    face.sort(Comparator.comparing(Method::getName));
    long calls = 0;
    for (int run = 1; run <= 200; run++) {
      Random random = new Random(run);
      EverySecondWord x = run % 5 == 0 ? new EverySecondWord() : Due.with("r0a1A;r0b0B;r1a0F;r1c1;e1;", "p0ab;p2ac;p4abc;");
      for (int i = 0; i < 1000; i++) {
        Method m = face.get(random.nextInt(face.size()));
        Object[] given = new Object[m.getParameterCount()];
        for (int k = 0; k < given.length; k++) {
          given[k] = m.getParameterTypes()[k] == boolean.class ? (Object) random.nextBoolean() : (Object) number(random);
        }
        if (random.nextInt(4) == 0) {
          x.feed(LETTERS.charAt(random.nextInt(LETTERS.length())));
        }
        m.invoke(x, given);
        calls++;
      }
    }
    System.out.println("WildCalls: " + calls + " calls, none threw");
  }

  private static int number(Random random) {
    return random.nextInt(3) == 0 ? WILD[random.nextInt(WILD.length)] : random.nextInt(5);
  }
}
