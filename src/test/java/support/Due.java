import java.util.function.IntUnaryOperator;

/** Counts the answers that are not the ones that are due. */
final class Due {
  private int checks = 0;
  private int wrong = 0;
  private String test = "";

  /** The test that the answers behind this belong to. */
  void begin(String name) {
    test = name + ": ";
  }

  void is(String call, long got, long want) {
    checks++;
    if (got != want) {
      wrong++;
      System.out.println(test + call + " answered " + got + ", due is " + want);
    }
  }

  void same(String what, String got, String want) {
    checks++;
    if (!got.equals(want)) {
      wrong++;
      System.out.println(test + what + " is not as due:\n  " + got + "\nbut\n  " + want);
    }
  }

  /** What a call answers for 0, 1, 2, .. */
  void row(String call, IntUnaryOperator asked, int... want) {
    for (int i = 0; i < want.length; i++) {
      is(call + " of " + i, asked.applyAsInt(i), want[i]);
    }
  }

  /** A refusal: it is one of its number more, and none of another number. */
  void refused(String call, EverySecondWord x, IntUnaryOperator asked, int given, int number) {
    refusal(call + "(" + given + ")", x, asked, given, number, number);
  }

  /** A refusal where worths are answered. */
  void refusedWorth(String call, EverySecondWord x, IntUnaryOperator asked, int given, int number) {
    refusal(call + "(" + given + ")", x, asked, given, number, 1000000000 - number);
  }

  private void refusal(String call, EverySecondWord x, IntUnaryOperator asked, int given, int number, int want) {
    int[] before = refusals(x);
    is(call, asked.applyAsInt(given), want);
    int[] then = refusals(x);
    for (int i = 1; i <= 6; i++) {
      is(call + ", then count(" + (10 + i) + ")", then[i], before[i] + (i == -number ? 1 : 0));
    }
  }

  private static int[] refusals(EverySecondWord x) {
    int[] counts = new int[7];
    for (int i = 1; i <= 6; i++) {
      counts[i] = x.count(10 + i);
    }
    return counts;
  }

  /** Feeds a text letter by letter and reads it as a tongue. */
  static int tongue(EverySecondWord x, String text) {
    feed(x, text);
    return x.tongue();
  }

  static void feed(EverySecondWord x, String text) {
    for (int i = 0; i < text.length(); i++) {
      x.feed(text.charAt(i));
    }
  }

  /** Words said one behind the other, told as letters. */
  static int say(EverySecondWord x, String words) {
    int answer = 0;
    for (int i = 0; i < words.length(); i++) {
      answer = x.say(words.charAt(i) - 'a');
    }
    return answer;
  }

  /** A new object with the tongues of these texts. */
  static EverySecondWord with(String... texts) {
    EverySecondWord x = new EverySecondWord();
    for (String text : texts) {
      if (tongue(x, text) <= 0) {
        throw new IllegalArgumentException("a test's tongue has a fault: " + text);
      }
    }
    return x;
  }

  void close(String name) {
    System.out.println(name + ": " + checks + " answers, " + wrong + " not as due");
    if (wrong != 0 || checks == 0) {
      System.exit(1);
    }
  }
}
