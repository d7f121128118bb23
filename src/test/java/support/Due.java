/** Counts the answers that are not the ones that are due. */
final class Due {
  private int checks = 0;
  private int wrong = 0;

  void is(String call, long got, long want) {
    checks++;
    if (got != want) {
      wrong++;
      System.out.println(call + " answered " + got + ", due is " + want);
    }
  }

  /** Feeds a text letter by letter and reads it as a tongue. */
  static int tongue(EverySecondWord x, String text) {
    feed(x, text);
    return x.tongue();
  }

  static void feed(EverySecondWord x, String text) {
    for (int i = 0; i < text.length(); i++) {
      x.feed(text.charAt(i));
    }
  }

  /** A new object with the tongues of these texts. */
  static EverySecondWord with(String... texts) {
    EverySecondWord x = new EverySecondWord();
    for (String text : texts) {
      if (tongue(x, text) <= 0) {
        throw new IllegalArgumentException("a test's tongue has a fault: " + text);
      }
    }
    return x;
  }

  void close(String name) {
    System.out.println(name + ": " + checks + " answers, " + wrong + " not as due");
    if (wrong != 0 || checks == 0) {
      System.exit(1);
    }
  }
}
