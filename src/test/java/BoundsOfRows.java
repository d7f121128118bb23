import java.math.BigInteger;

/** Promises 38 to 43: a test for each sentence of the document that names a boundary case. */
public final class BoundsOfRows {
  private static final Due due = new Due();
  private static final int LEAST = Integer.MIN_VALUE;
  private static final int MOST = Integer.MAX_VALUE;
  /** Two in turn, each with one word, around two states. */
  private static final String[] IN_TURN = {"r0a1;r1b0;e0;", "p0a;p0b;"};
  /** One word of four, each with a mark. */
  private static final String[] ONE_OF_FOUR = {"l1;r0a1A;r0b1B;r0c1C;r0d1D;e1;", "p0abcd;v0A+1;v0B+2;v0C+4;v0D+8;"};

  public static void main(String[] args) throws IllegalAccessException {
    ByName.run(BoundsOfRows.class, due);
  }

  private static int judged(EverySecondWord x, String words) {
    for (int i = 0; i < words.length(); i++) {
      x.row(words.charAt(i) - 'a');
    }
    return x.judge();
  }

  // ---- 38: "A WORD more of the ROW: how many. -1; -6 8." ----

  static void promise38_words0To7() {
    EverySecondWord x = new EverySecondWord();
    due.row("row", x::row, 1, 2, 3, 4, 5, 6, 7, 8);
    EverySecondWord y = new EverySecondWord();
    for (int word : new int[] {-1, 8, 32, LEAST, MOST}) {
      due.refused("row", y, y::row, word, -1);
    }
    due.is("count(6)", y.count(6), 0);
  }

  static void promise38_theEighthIsTakenTheNinthIsNot() {
    EverySecondWord x = new EverySecondWord();
    for (int i = 1; i <= 8; i++) {
      due.is("row(7)", x.row(7), i);
    }
    due.refused("row", x, x::row, 7, -6);
    due.refused("row", x, x::row, 0, -6);
    due.is("count(6)", x.count(6), 8);
  }

  static void promise38_noSuchWordIsToldAheadOfNoRoom() {
    EverySecondWord x = new EverySecondWord();
    for (int i = 1; i <= 8; i++) {
      x.row(0);
    }
    due.refused("row", x, x::row, 8, -1);
    due.refused("row", x, x::row, -1, -1);
  }

  static void promise38_roomAgainBehindAJudgement() {
    EverySecondWord x = Due.with(IN_TURN);
    due.is("all eight", judged(x, "abababab"), 6);
    due.is("the first", x.row(0), 1);
    due.is("the second", x.row(0), 2);
  }

  // ---- 39: "JUDGED; -9 (the ROW has none then). -3 nobody (it stays)." ----

  static void promise39_anEmptyRow() {
    EverySecondWord x = Due.with(IN_TURN);
    due.is("judge()", x.judge(), -9);
    due.is("when it is STUCK at once", Due.with("p0a;").judge(), -9);
    due.is("refusals", x.count(11) + x.count(12) + x.count(13) + x.count(14) + x.count(16), 0);
  }

  static void promise39_nobodyMinus3() {
    EverySecondWord x = Due.with("r0a0;e0;");
    due.refused("judge", x, n -> x.judge(), 0, -3);
    x.row(0);
    x.row(1);
    due.refused("judge", x, n -> x.judge(), 0, -3);
    due.is("the row stays", x.count(6), 2);
    Due.tongue(x, "p0ab;");
    due.is("judge()", x.judge(), 1);
  }

  static void promise39_theRowHasNoneThen() {
    EverySecondWord x = Due.with(IN_TURN);
    due.is("all may be said", judged(x, "ab"), -9);
    due.is("count(6)", x.count(6), 0);
    due.is("one may not", judged(x, "abaa"), 3);
    due.is("count(6)", x.count(6), 0);
    due.is("no row", x.judge(), -9);
    due.is("a shorter one", judged(x, "b"), 0);
    due.is("and a longer one", judged(x, "abb"), 2);
  }

  static void promise39_placesFrom0To7() {
    for (int place = 0; place < 8; place++) {
      EverySecondWord x = Due.with("r0a0;l8;", "p0a;");
      due.is("judge()", judged(x, "aaaaaaaa".substring(0, place) + "h" + "aaaaaaaa".substring(place + 1)), place);
    }
    EverySecondWord x = Due.with("r0a0;l8;", "p0a;");
    due.is("all eight may be said", judged(x, "aaaaaaaa"), -9);
  }

  /** Where LENGTH words were said none MAY be said. */
  static void promise39_lengthWordsAndNoMore() {
    for (int length = 1; length <= 8; length++) {
      EverySecondWord x = Due.with("r0a0;e0;", "p0a;");
      x.set(0, length);
      due.is("as many as LENGTH", judged(x, "aaaaaaaa".substring(0, length)), -9);
      due.is("eight, LENGTH " + length, judged(x, "aaaaaaaa"), length == 8 ? -9 : length);
    }
  }

  /** "JUDGED from the beginning by ORDER". */
  static void promise39_byOrder() {
    EverySecondWord x = Due.with("r0a0;r0b0;r0c0;", "p0a;p0b;p0c;");
    due.is("a, b, c, a", judged(x, "abca"), -9);
    x.order(102);
    due.is("a, b, c, a", judged(x, "abca"), 0);
    due.is("c, a, b, c", judged(x, "cabc"), -9);
    due.is("c, a, b, a", judged(x, "caba"), 3);
  }

  static void promise39_fromTheBeginning() {
    EverySecondWord x = Due.with(IN_TURN);
    x.say(0);
    due.is("b is the next", judged(x, "b"), 0);
    due.is("a is the first", judged(x, "ab"), -9);
    x.say(1);
    x.stop();
    due.is("stopped", judged(x, "ab"), -9);
    due.row("the talk", x::talk, 0, 0, 2, 1);
  }

  static void promise39_aWordNotHadOrWithoutARule() {
    EverySecondWord x = Due.with("r0a1;r1a0;r0b0;", "p0ac;p0ac;");
    due.is("b is had by nobody", judged(x, "aab"), 2);
    due.is("by c there is no rule", judged(x, "ac"), 1);
    due.is("the marks do not matter", judged(x, "aaaaaa"), -9);
  }

  // ---- 40: SEEDS "n TALKS (1 .. 20) with a seed z". "Refused as told: -1; -4; -6 20." ----

  static void promise40_noSuchPerson() {
    EverySecondWord x = Due.with("r0a0;e0;", "p0a;p0a;");
    due.is("the last", x.seeds(1, 1, 1), 0);
    for (int person : new int[] {-1, 2, 4, LEAST, MOST}) {
      due.refusedWorth("seeds", x, i -> x.seeds(i, 1, 1), person, -1);
    }
    EverySecondWord nobody = new EverySecondWord();
    due.refusedWorth("seeds", nobody, i -> nobody.seeds(i, 1, 1), 0, -1);
  }

  static void promise40_from1To20Talks() {
    EverySecondWord x = Due.with("r0a1A;e1;", "p0a;v0A+7;");
    due.is("one", x.seeds(0, 1, 5), 7);
    due.is("twenty", x.seeds(0, 20, 5), 140);
    for (int n : new int[] {0, -1, LEAST}) {
      due.refusedWorth("seeds, so many", x, i -> x.seeds(0, i, 5), n, -4);
    }
    for (int n : new int[] {21, 22, MOST}) {
      due.refusedWorth("seeds, so many", x, i -> x.seeds(0, i, 5), n, -6);
    }
  }

  static void promise40_noSuchPersonIsToldFirst() {
    EverySecondWord x = Due.with("r0a1A;e1;", "p0a;");
    due.refusedWorth("seeds by nobody, so many", x, i -> x.seeds(1, i, 5), 0, -1);
    due.refusedWorth("seeds by nobody, so many", x, i -> x.seeds(-1, i, 5), 21, -1);
  }

  static void promise40_theMostAndTheLeast() {
    EverySecondWord x = Due.with("r0a1A;r1a2B;r2a3C;r3a4D;r4a5E;r5a6F;e6;", "p0a;p0a;");
    for (int mark = 0; mark < 6; mark++) {
      x.values(0, mark, 9);
      x.values(1, mark, -9);
    }
    due.row("twenty with all marks", one -> x.seeds(one, 20, MOST), 1080, -1080);
    x.set(0, 5);
    x.set(1, 99);
    due.row("twenty STUCK", one -> x.seeds(one, 20, LEAST), -1980, -1980);
    x.set(1, 0);
    due.row("twenty STUCK with no LOSS", one -> x.seeds(one, 20, LEAST), 0, 0);
  }

  /** Draws at the edges of an int: z wraps, and the sign's bit is taken away, not turned. */
  static void promise40_seedsAtTheEdgesOfAnInt() {
    EverySecondWord x = Due.with(ONE_OF_FOUR);
    // The first numbers drawn: 0 and LEAST 0; 1 16838; -1 and MOST 15929; 12345 21468.
    int[] seeds = {0, LEAST, 1, -1, MOST, 12345};
    int[] first = {1, 1, 4, 2, 2, 1};
    for (int i = 0; i < seeds.length; i++) {
      due.is("one talk by " + seeds[i], x.seeds(0, 1, seeds[i]), first[i]);
    }
    // From 0: 0, 21468, 9988, 22117: a, a, a, b.
    due.is("four talks by 0", x.seeds(0, 4, 0), 5);
    // From -1: 15929, 4409, 9862, 26718: b, b, c, c.
    due.is("four talks by -1", x.seeds(0, 4, -1), 12);
  }

  /** The draws told again with numbers that do not wrap by themselves. */
  static void promise40_drawsThatWrapAround() {
    EverySecondWord x = Due.with(ONE_OF_FOUR);
    int[] seeds = {
      0, 1, -1, 2, MOST, LEAST, MOST - 1, LEAST + 1, 65535, 65536, -65536, 1103515245, 12345, -12345, 987654321
    };
    for (int seed : seeds) {
      for (int n = 1; n <= 20; n++) {
        due.is("seeds(0, " + n + ", " + seed + ")", x.seeds(0, n, seed), sumOfOneOfFour(n, seed));
      }
    }
  }

  private static int sumOfOneOfFour(int n, int seed) {
    BigInteger z = BigInteger.valueOf(seed);
    BigInteger all = BigInteger.ONE.shiftLeft(32);
    int sum = 0;
    for (int i = 0; i < n; i++) {
      z = z.multiply(BigInteger.valueOf(1103515245L)).add(BigInteger.valueOf(12345L)).mod(all);
      BigInteger unsigned = z.mod(BigInteger.ONE.shiftLeft(31));
      sum += 1 << unsigned.divide(BigInteger.valueOf(65536L)).intValue() % 4;
    }
    return sum;
  }

  /** Where nothing MAY be done nothing is drawn; where one word alone MAY be said it is drawn. */
  static void promise40_talksWithoutADraw() {
    due.is("STUCK at once", Due.with("p0a;").seeds(0, 20, 1), -100);
    due.is("OVER at once", Due.with("e0;", "p0a;").seeds(0, 20, 1), 0);
    EverySecondWord x = Due.with("r0a1A;r1a2;r1b2B;e2;l2;", "p0ab;v0A+1;v0B+8;");
    // From 1: 16838 (a alone), 5758 of two: a; 10113 (a alone), 17515 of two: b.
    due.is("one talk", x.seeds(0, 1, 1), 1);
    due.is("two talks", x.seeds(0, 2, 1), 10);
  }

  /** "each does one of what it MAY (words, to stop last)". */
  static void promise40_toStopIsTheLast() {
    EverySecondWord x = Due.with("r0a1A;r0b1B;r1a1C;e0;e1;l1;", "p0ab;v0A+1;v0B+8;v0C-9;");
    // From 1: 16838, 5758, 10113, 17515 modulo 3: a stop, b, a, b.
    due.is("one talk", x.seeds(0, 1, 1), 0);
    due.is("two talks", x.seeds(0, 2, 1), 8);
    due.is("three talks", x.seeds(0, 3, 1), 9);
    due.is("four talks", x.seeds(0, 4, 1), 17);
  }

  static void promise40_eightWordsAndNoMore() {
    EverySecondWord x = Due.with("r0a0A;l8;e0;", "p0a;v0A+1;");
    // From 0 the draws of two: a, a, a, a stop; a, a stop; a stop; a stop; ..
    due.is("A behind three words", x.seeds(0, 1, 0), 1);
    EverySecondWord y = Due.with("r0a1;r1a2;r2a3;r3a4;r4a5;r5a6;r6a7;r7a0A;e0;l8;", "p0a;v0A+1;");
    // From 0: a; seven more alone; the ninth draw is of the next talk.
    due.is("the eighth word", y.seeds(0, 1, 0), 1);
    y.set(0, 7);
    due.is("STUCK behind seven", y.seeds(0, 1, 0), -5);
  }

  static void promise40_fromTheBeginning() {
    EverySecondWord x = Due.with(ONE_OF_FOUR);
    x.say(3);
    due.is("when OVER", x.seeds(0, 4, 0), 5);
    due.row("the talk", x::talk, 1, 8, 1, 1);
    Due.tongue(x, "e0;");
    x.back();
    due.is("seeds stay the same", x.seeds(0, 4, 0), 5);
  }

  // ---- 41: "THE IMAGE is taken: how many words were said." ----

  static void promise41_noWordsOrEight() {
    EverySecondWord nobody = new EverySecondWord();
    due.is("image() of nothing", nobody.image(), 0);
    EverySecondWord x = Due.with("r0a0A;e0;l8;", "p0a;");
    due.is("image()", x.image(), 0);
    Due.say(x, "aaaaaaaa");
    due.is("image() of eight words", x.image(), 8);
    x.back();
    x.stop();
    due.is("image() when stopped", x.image(), 7);
  }

  static void promise41_theLaterImageHolds() {
    EverySecondWord x = Due.with("r0a0A;e0;", "p0a;");
    x.say(0);
    x.image();
    x.say(0);
    x.say(0);
    x.image();
    x.anew();
    due.is("restore()", x.restore(), 3);
  }

  // ---- 42: "It is RESTORED: how many words were said. -3 there is none." ----

  static void promise42_thereIsNone() {
    EverySecondWord x = Due.with("r0a0A;e0;", "p0a;");
    x.say(0);
    due.refused("restore", x, n -> x.restore(), 0, -3);
    due.is("words said", x.talk(2), 1);
    x.image();
    x.back();
    due.is("now there is one", x.restore(), 1);
  }

  static void promise42_anImageOfNothing() {
    EverySecondWord x = new EverySecondWord();
    String nothing = Portrait.of(x);
    x.image();
    Due.tongue(x, "r0a0A;r0b1F;e0;e7;l8;p3a;v0A+9;");
    Due.tongue(x, "p6b;v1F-9;");
    x.set(1, 99);
    Due.say(x, "ab");
    due.is("restore()", x.restore(), 0);
    due.same("nothing", Portrait.of(x), nothing);
    due.is("the same tongue again", Due.tongue(x, "r0a0A;r0b1F;e0;e7;l8;p3a;"), 6);
    due.row("worth", mark -> x.worth(0, mark), 0, 0, 0, 0, 0, 0);
    due.is("rules", x.count(0), 2);
    due.is("MAY", x.talk(5), 1);
  }

  /** "all that there is": each thing by itself is as it was. */
  static void promise42_eachThingIsAsItWas() {
    EverySecondWord x = Due.with("r0a0A;r0b1B;r1b0;e0;l5;", "p3ab;p1ab;v0A+2;v1B-3;");
    x.order(1);
    x.set(1, 44);
    Due.say(x, "ab");
    x.image();
    String before = Portrait.of(x);
    Runnable[] changes = {
      () -> x.kind(0, 0), () -> x.values(1, 1, 9), () -> x.values(0, 5, 1), () -> x.word(0, 0, false),
      () -> x.word(1, 7, true), () -> x.set(0, 8), () -> x.set(1, 0), x::back, x::anew, x::stop, x::goes,
      () -> anewAnd(x, () -> x.order(10)), () -> anewAnd(x, () -> Due.tongue(x, "r5a5F;")),
      () -> anewAnd(x, () -> Due.tongue(x, "e5;")), () -> anewAnd(x, () -> Due.tongue(x, "p6h;v2F+9;")),
      () -> anewAnd(x, () -> Due.tongue(x, "v0A-9;l1;"))
    };
    for (int i = 0; i < changes.length; i++) {
      changes[i].run();
      due.is("restore() behind change " + i, x.restore(), 2);
    }
    due.same("all there is", Portrait.of(x), before);
  }

  private static void anewAnd(EverySecondWord x, Runnable change) {
    x.anew();
    change.run();
  }

  /** Each word of the TALK with the state and the meaning that it left, though others were said since. */
  static void promise42_theWordsOfTheTalk() {
    EverySecondWord x = Due.with("r0a1A;r1a0B;r0b0C;r1b1D;l8;", "p0ab;p1ab;");
    String said = "aabbabab";
    int[] states = new int[9];
    int[] meanings = new int[9];
    for (int i = 0; i < 8; i++) {
      Due.say(x, said.substring(i, i + 1));
      states[i + 1] = x.talk(0);
      meanings[i + 1] = x.talk(1);
    }
    int first = x.kinds(0);
    int second = x.kinds(1);
    x.image();
    x.anew();
    Due.say(x, "bbababba");
    due.is("restore()", x.restore(), 8);
    due.is("kinds(0)", x.kinds(0), first);
    due.is("kinds(1)", x.kinds(1), second);
    for (int i = 8; i > 0; i--) {
      due.is("the state behind word " + i, x.talk(0), states[i]);
      due.is("the meaning behind word " + i, x.talk(1), meanings[i]);
      due.is("back()", x.back(), i - 1);
    }
    x.anew();
    Due.say(x, "a");
    due.is("PLAIN says a", x.kinds(0) & 2, 2);
    x.image();
    x.back();
    Due.say(x, "b");
    due.is("it does not say b", x.kinds(0) & 2, 0);
    x.restore();
    due.is("it said a", x.kinds(0) & 2, 2);
  }

  /** The eighth word alone is another since. */
  static void promise42_theEighthWord() {
    EverySecondWord x = Due.with("r0a0;r0b0;l8;", "p1ab;");
    Due.say(x, "aaaaaaaa");
    due.is("PLAIN says a", x.kinds(0), 127);
    x.image();
    x.back();
    Due.say(x, "b");
    due.is("it does not say b", x.kinds(0), 0);
    x.restore();
    due.is("it said a", x.kinds(0), 127);
  }

  /** All four people with all that they have. */
  static void promise42_allPeople() {
    EverySecondWord x = Due.with("p0;p1a;p2h;p3abcdefgh;");
    for (int person = 0; person < 4; person++) {
      for (int mark = 0; mark < 6; mark++) {
        x.values(person, mark, (person * 6 + mark) % 19 - 9);
      }
    }
    x.order(1032);
    x.image();
    String before = Portrait.of(x);
    for (int person = 0; person < 4; person++) {
      x.kind(person, 6);
      x.word(person, 0, person == 0);
      for (int mark = 0; mark < 6; mark++) {
        x.values(person, mark, 9);
      }
    }
    x.order(3210);
    x.restore();
    due.same("all there is", Portrait.of(x), before);
  }

  /** All 24 rules and eight ends. */
  static void promise42_allRulesAndEnds() {
    String[] rules = {
      "r0a1A;r0b2B;r0c3C;r0d4D;r0e5E;r0f6F;r0g7;r0h0;", "r6a1A;r6b2B;r6c3C;r6d4D;r6e5E;r6f6F;r6g7;r6h0;"
    };
    EverySecondWord x = Due.with(rules);
    Due.tongue(x, "e0;e7;e3;");
    x.image();
    String before = Portrait.of(x);
    due.is("eight rules more", Due.tongue(x, "r7a1A;r7b2B;r7c3C;r7d4D;r7e5E;r7f6F;r7g7;r7h0;"), 8);
    due.is("five ends more", Due.tongue(x, "e1;e2;e4;e5;e6;"), 5);
    x.image();
    String full = Portrait.of(x);
    due.is("rule(23, 2)", x.rule(23, 2), 0);
    EverySecondWord y = Due.with(rules);
    Due.tongue(y, "e0;e7;e3;");
    y.image();
    Due.tongue(y, "r7h1A;r7g2B;r7f3C;r7e4D;r7d5E;r7c6F;r7b7;r7a0;");
    y.restore();
    due.same("the rules as they were", Portrait.of(y), before);
    Due.tongue(y, "r7a1A;r7b2B;r7c3C;r7d4D;r7e5E;r7f6F;r7g7;r7h0;");
    Due.tongue(y, "e1;e2;e4;e5;e6;");
    due.same("the same rules told then", Portrait.of(y), full);
  }

  static void promise42_itIsThereStill() {
    EverySecondWord x = Due.with("r0a0A;e0;", "p0a;");
    x.say(0);
    x.image();
    x.anew();
    due.is("restore()", x.restore(), 1);
    x.say(0);
    x.kind(0, 3);
    due.is("restore() again", x.restore(), 1);
    due.is("kind", x.person(0, 0), 0);
    due.is("back()", x.back(), 0);
    due.is("restore() again", x.restore(), 1);
  }

  /** "all that there is, but it, letters that came, the ROW, REFUSALS". */
  static void promise42_lettersTheRowAndRefusalsAreNotInIt() {
    EverySecondWord x = Due.with("r0a0A;e0;", "p0a;");
    Due.feed(x, "e1");
    x.row(0);
    x.end(8);
    x.image();
    Due.feed(x, ";l");
    x.row(7);
    x.end(8);
    x.talk(7);
    x.restore();
    due.is("letters", x.count(5), 4);
    due.is("the row", x.count(6), 2);
    due.row("refusals of 11 and", i -> x.count(11 + i), 2, 1, 0, 0, 0, 0);
    x.feed('2');
    x.feed(';');
    due.is("judge()", x.judge(), 1);
    due.is("tongue()", x.tongue(), 2);
    due.is("end(1)", x.end(1), 1);
  }

  static void promise42_lettersReadBehindTheImageAreNoMore() {
    EverySecondWord x = Due.with("r0a0A;e0;", "p0a;");
    Due.feed(x, "e1;");
    x.row(0);
    x.image();
    x.tongue();
    x.judge();
    x.restore();
    due.is("letters", x.count(5), 0);
    due.is("the row", x.count(6), 0);
    due.is("end(1)", x.end(1), 0);
  }

  static void promise42_aStoppedTalk() {
    EverySecondWord x = Due.with("r0a0A;e0;", "p0a;");
    x.stop();
    x.image();
    x.back();
    x.say(0);
    due.is("restore()", x.restore(), 0);
    due.row("stopped without a word", x::talk, 0, 0, 0, 1, -9, 0, 0);
    due.is("back()", x.back(), 0);
    due.row("not stopped", x::talk, 0, 0, 0, 0, 0, 1, 1);
  }

  // ---- 43: "0 RULES, 1 ENDS, 2 PEOPLE, 3 LENGTH, 4 LOSS, 5 letters, 6 words in the ROW, 11 .. 16 REFUSALS -1 .. -6.
  // -9 for another what." ----

  static void promise43_anotherWhatMinus9() {
    EverySecondWord x = new EverySecondWord();
    for (int what : new int[] {-1, -2, 7, 8, 9, 10, 17, 18, 27, LEAST, MOST}) {
      due.is("count(" + what + ")", x.count(what), -9);
    }
    due.row("it is no refusal: count of 11 and", i -> x.count(11 + i), 0, 0, 0, 0, 0, 0);
  }

  static void promise43_theMostOfEach() {
    EverySecondWord x = Due.with("r0a0;r0b0;r0c0;r0d0;r0e0;r0f0;r0g0;r0h0;", "r1a0;r1b0;r1c0;r1d0;r1e0;r1f0;r1g0;r1h0;",
        "r2a0;r2b0;r2c0;r2d0;r2e0;r2f0;r2g0;r2h0;", "e0;e1;e2;e3;e4;e5;e6;e7;l8;p0;p0;p0;p0;");
    x.set(1, 99);
    Due.feed(x, ";".repeat(64));
    for (int i = 0; i < 8; i++) {
      x.row(i);
    }
    due.row("count", x::count, 24, 8, 4, 8, 99, 64, 8, -9);
  }

  static void promise43_theLeastOfEach() {
    EverySecondWord x = new EverySecondWord();
    x.set(0, 1);
    x.set(1, 0);
    due.row("count", x::count, 0, 0, 0, 1, 0, 0, 0, -9);
  }

  static void promise43_eachRefusalIsCountedByItsNumber() {
    EverySecondWord x = new EverySecondWord();
    x.end(8);
    x.talk(7);
    x.talk(7);
    x.back();
    x.back();
    x.back();
    for (int i = 0; i < 4; i++) {
      x.feed(-1);
    }
    for (int i = 0; i < 6; i++) {
      x.feed(256);
    }
    due.row("count of 11 and", i -> x.count(11 + i), 1, 2, 3, 4, 0, 6, -9);
  }

  /** As many as an object's calls leave room for. */
  static void promise43_fiveHundredRefusals() {
    EverySecondWord x = new EverySecondWord();
    for (int i = 1; i <= 500; i++) {
      x.worth(0, 0);
    }
    due.row("count of 11 and", i -> x.count(11 + i), 500, 0, 0, 0, 0, 0);
  }

  /** "Where WORTHS are answered": a refusal counts there as elsewhere. */
  static void promise43_refusalsWhereWorthsAreAnswered() {
    EverySecondWord x = Due.with("p0;");
    due.is("values below", x.values(0, 0, -10), 1000000004);
    due.is("values above", x.values(0, 0, 10), 1000000006);
    due.is("seeds below", x.seeds(0, 0, 0), 1000000004);
    due.is("seeds above", x.seeds(0, 21, 0), 1000000006);
    due.is("value to nobody", x.value(1), 1000000001);
    due.row("count of 11 and", i -> x.count(11 + i), 1, 0, 0, 2, 0, 2);
  }
}
