/** For each promise, calls whose answers were worked out by hand from the document. */
public final class PromiseTests {
  private static final Due due = new Due();

  /** One speaks one word from an END; each kind has another liking. */
  private static final String[] TASTES = {
    "l1;r0a1A;r0b1B;r0c1C;r0d1D;e0;e1;", "p0abcd;p1;v0A+1;v0B+5;v0C+3;v1A+4;v1B+2;v1C-9;v1D+9;"
  };
  /** A blind one takes the other for a plain one, which it is not. */
  private static final String[] SIGHT = {
    "l2;r0a1;r0b2A;r1a3B;r1b3;r2a3;e3;", "p4ab;p2ab;v0A+1;v0B+5;"
  };
  /** The second one has the last word on A. */
  private static final String[] LAST_WORD = {"l2;r0a1A;r0b1;r1a2;r1b2A;e2;", "p0ab;p0ab;"};

  public static void main(String[] args) {
    promises1To3();
    faultsOfTongues();
    roomOfTongues();
    promises4To7();
    promises8To12();
    ordersAfterLatecomers();
    promises13To17();
    talksThatEnd();
    talksThatChangeBehind();
    kindsOfSayers();
    deedsOverSeveralTurns();
    promises18To21();
    promises22To26();
    whatOneIsSureOf();
    promises27To28();
    promises29To31();
    promises32To35();
    promise36();
    promise37();
    promises38To39();
    promise40();
    promises41To42();
    imageOfALongTalk();
    promise43();
    due.close("PromiseTests");
  }

  private static void refusals(String call, EverySecondWord x, int got, int number, int want) {
    due.is(call, got, want);
    due.is(call + ", then count(" + (10 - number) + ")", x.count(10 - number), 1);
  }

  private static void promises1To3() {
    EverySecondWord x = new EverySecondWord();
    int[] counts = {0, 0, 0, 6, 5, 0, 0};
    for (int i = 0; i < counts.length; i++) {
      due.is("1: count(" + i + ")", x.count(i), counts[i]);
    }
    for (int i = 11; i <= 16; i++) {
      due.is("1: count(" + i + ")", x.count(i), 0);
    }
    due.is("1: talk(0)", x.talk(0), 0);
    due.is("1: talk(1)", x.talk(1), 0);
    due.is("1: talk(2)", x.talk(2), 0);
    refusals("2: feed(-1)", x, x.feed(-1), -4, -4);
    refusals("2: feed(256)", x, x.feed(256), -6, -6);
    due.is("2: feed(0)", x.feed(0), 1);
    due.is("2: feed(255)", x.feed(255), 2);
    for (int i = 3; i <= 64; i++) {
      due.is("2: feed(59)", x.feed(59), i);
    }
    due.is("2: feed(59) when full", x.feed(59), -6);
    due.is("2: feed(-1) when full", x.feed(-1), -4);
    due.is("2: count(5)", x.count(5), 64);
    due.is("3: tongue() of nonsense", x.tongue(), -1000);
    due.is("3: count(5)", x.count(5), 0);
    due.is("3: tongue() of three", Due.tongue(x, "r0a1F;p6;e7;"), 3);
    due.is("3: count(0)", x.count(0), 1);
    due.is("3: count(1)", x.count(1), 1);
    due.is("3: count(2)", x.count(2), 1);
    EverySecondWord y = Due.with("r0a0;r0b1;e0;", "p0ab;");
    due.is("3: say", y.say(0), 0);
    Due.feed(y, "l3;");
    refusals("3: tongue() when words were said", y, y.tongue(), -3, -3);
    due.is("3: the letters stay", y.count(5), 3);
    y.back();
    due.is("3: stop without a word", y.stop(), 0);
    due.is("3: tongue() then", y.tongue(), 1);
    due.is("3: length", y.count(3), 3);
    due.is("3: it stays stopped", y.talk(3), 1);
    due.is("3: and can be taken back", y.back(), 0);
    due.is("3: and goes on", y.talk(3), 0);
  }

  private static void faultsOfTongues() {
    String[] texts = {
      "", ";", "x", "r", "r0", "r0a", "r0a1", "r0a1A", "rA", "r0i", "r0aa", "r0a1G", "r0a1AA", "r0a1;;", "e", "e0", "ea",
      "e00", "p", "pa", "p0aa;", "p0ba;", "p0h", "p0abcdefgh;e", "p0i;", "v", "vA", "v0", "v0G", "v0A", "v0A5", "v0A+",
      "v0A+a", "v0A+5", "l", "l5", "lx", "e0;e1;q", "e9;v9A+", "R0a1;", "e0; ", "e0;e0;r"
    };
    int[] places = {
      0, 0, 0, 1, 2, 3, 4, 5, 1, 2, 3, 4, 5, 5, 1, 2, 1,
      2, 1, 1, 3, 3, 3, 12, 2, 1, 1, 2, 2, 3, 3, 4,
      4, 5, 1, 2, 1, 6, 7, 0, 3, 7
    };
    for (int i = 0; i < texts.length; i++) {
      EverySecondWord x = new EverySecondWord();
      due.is("3: tongue() of " + texts[i], Due.tongue(x, texts[i]), -1000 - places[i]);
      due.is("3: letters behind it", x.count(5), 0);
      due.is("3: refusals by it", x.count(13), 0);
    }
    String[] wrongs = {
      "r8a0;", "r0a8;", "r9a9;", "e8;", "e9;", "p7;", "p9;", "l0;", "l9;", "v0A+1;", "v4A+1;", "v9A+1;",
      "e0;e0;", "e1;e2;e1;", "r0a1;r0a2B;", "p0;v1A+1;", "v0A+1;p0;", "p0;p0;p0;p0;p0;", "e0;l0;e9;", "e0;l3;r8a8;"
    };
    int[] begin = {0, 0, 0, 0, 0, 0, 0, 0, 0, 0, 0, 0, 3, 6, 5, 3, 0, 12, 3, 6};
    for (int i = 0; i < wrongs.length; i++) {
      EverySecondWord x = new EverySecondWord();
      due.is("3: tongue() of " + wrongs[i], Due.tongue(x, wrongs[i]), -2000 - begin[i]);
      int all = x.count(0) + x.count(1) + x.count(2);
      due.is("3: nothing came by " + wrongs[i], all * 10 + x.count(3), 6);
      due.is("3: letters behind it", x.count(5), 0);
    }
  }

  private static void roomOfTongues() {
    EverySecondWord x = new EverySecondWord();
    for (int state = 0; state < 3; state++) {
      StringBuilder text = new StringBuilder();
      for (char c = 'a'; c <= 'h'; c++) {
        text.append('r').append(state).append(c).append("0;");
      }
      due.is("3: eight rules", Due.tongue(x, text.toString()), 8);
    }
    due.is("3: 24 rules", x.count(0), 24);
    due.is("3: a rule too many", Due.tongue(x, "e1;r3a0;"), -2003);
    due.is("3: no end came", x.count(1), 0);
    due.is("3: a second rule, told later", Due.tongue(x, "r0a0;"), -2000);
    due.is("3: four people", Due.tongue(x, "p0;p1;p2;p3;"), 4);
    due.is("3: one too many", Due.tongue(x, "e1;p0;"), -2003);
    due.is("3: an end", Due.tongue(x, "e1;"), 1);
    due.is("3: told again", Due.tongue(x, "e2;e1;"), -2003);
    due.is("3: the text's later worth counts", Due.tongue(x, "v3F+9;v3F-9;l8;l1;v0A-0;"), 5);
    due.is("3: worth", x.worth(3, 5), -9);
    due.is("3: worth of -0", x.worth(0, 0), 0);
    due.is("3: length", x.count(3), 1);
    due.is("3: a whole text of 64 letters", Due.tongue(Due.with("p0;"),
        "v0A+1;v0B+1;v0C+1;v0D+1;v0E+1;v0F+1;v0A+1;v0B+1;v0C+1;v0D+1;l12;"), -1062);
    due.is("3: a text that lacks its end at 64", Due.tongue(Due.with("p0;"),
        "v0A+1;v0B+1;v0C+1;v0D+1;v0E+1;v0F+1;v0A+1;v0B+1;v0C+1;v0D+1;p0ab"), -1064);
  }

  private static void promises4To7() {
    EverySecondWord x = Due.with("r0a1A;r7h6;r1c0F;e3;e7;", "p3bdh;p6;v0C-7;");
    int[][] rules = {{0, 0, 1, 0}, {7, 7, 6, -9}, {1, 2, 0, 5}};
    for (int i = 0; i < 3; i++) {
      for (int what = 0; what < 4; what++) {
        due.is("4: rule(" + i + ", " + what + ")", x.rule(i, what), rules[i][what]);
      }
    }
    refusals("4: rule(3, 9)", x, x.rule(3, 9), -1, -1);
    due.is("4: rule(-1, 0)", x.rule(-1, 0), -1);
    refusals("4: rule(0, 4)", x, x.rule(0, 4), -2, -2);
    due.is("4: rule(0, -1)", x.rule(0, -1), -2);
    for (int state = 0; state < 8; state++) {
      due.is("5: end(" + state + ")", x.end(state), state == 3 || state == 7 ? 1 : 0);
    }
    due.is("5: end(8)", x.end(8), -1);
    due.is("5: end(-1)", x.end(-1), -1);
    due.is("5: refusals", x.count(11), 4);
    due.is("6: person(0, 0)", x.person(0, 0), 3);
    due.is("6: person(0, 1)", x.person(0, 1), 2 + 8 + 128);
    due.is("6: person(0, 2)", x.person(0, 2), 0);
    due.is("6: person(1, 0)", x.person(1, 0), 6);
    due.is("6: person(1, 1)", x.person(1, 1), 0);
    due.is("6: person(1, 2)", x.person(1, 2), 1);
    due.is("6: person(2, 9)", x.person(2, 9), -1);
    due.is("6: person(-1, 0)", x.person(-1, 0), -1);
    due.is("6: person(0, 3)", x.person(0, 3), -2);
    due.is("6: person(0, -1)", x.person(0, -1), -2);
    due.is("7: worth(0, 2)", x.worth(0, 2), -7);
    due.is("7: worth(1, 2)", x.worth(1, 2), 0);
    due.is("7: worth(2, 0)", x.worth(2, 0), 1000000001);
    due.is("7: worth(-1, 0)", x.worth(-1, 0), 1000000001);
    due.is("7: worth(0, 6)", x.worth(0, 6), 1000000001);
    due.is("7: worth(0, -1)", x.worth(0, -1), 1000000001);
    due.is("7: refusals", x.count(11), 10);
  }

  private static void promises8To12() {
    EverySecondWord x = Due.with("p3bd;p6;p1a;");
    due.is("8: values(1, 4, 9)", x.values(1, 4, 9), 0);
    due.is("8: values(1, 4, -9)", x.values(1, 4, -9), 9);
    refusals("8: values(3, 0, 10)", x, x.values(3, 0, 10), -1, 1000000001);
    due.is("8: values(0, 6, 10)", x.values(0, 6, 10), 1000000001);
    refusals("8: values(1, 4, -10)", x, x.values(1, 4, -10), -4, 1000000004);
    refusals("8: values(1, 4, 10)", x, x.values(1, 4, 10), -6, 1000000006);
    due.is("8: it is as it was", x.worth(1, 4), -9);
    due.is("9: kind(0, 6)", x.kind(0, 6), 3);
    due.is("9: kind(0, 0)", x.kind(0, 0), 6);
    due.is("9: kind(0, 7)", x.kind(0, 7), -1);
    due.is("9: kind(0, -1)", x.kind(0, -1), -1);
    due.is("9: kind(3, 0)", x.kind(3, 0), -1);
    due.is("9: person(0, 0)", x.person(0, 0), 0);
    due.is("10: word(0, 0, true)", x.word(0, 0, true), 1);
    due.is("10: word(0, 0, true) again", x.word(0, 0, true), 0);
    due.is("10: word(0, 1, false)", x.word(0, 1, false), 1);
    due.is("10: word(0, 7, false)", x.word(0, 7, false), 0);
    due.is("10: person(0, 1)", x.person(0, 1), 1 + 8);
    due.is("10: word(0, 8, true)", x.word(0, 8, true), -1);
    due.is("10: word(0, -1, true)", x.word(0, -1, true), -1);
    due.is("10: word(3, 0, true)", x.word(3, 0, true), -1);
    due.is("11: set(0, 8)", x.set(0, 8), 6);
    due.is("11: set(0, 1)", x.set(0, 1), 8);
    due.is("11: set(1, 99)", x.set(1, 99), 5);
    due.is("11: set(1, 0)", x.set(1, 0), 99);
    due.is("11: set(2, -1)", x.set(2, -1), -2);
    due.is("11: set(-1, 5)", x.set(-1, 5), -2);
    due.is("11: set(0, 0)", x.set(0, 0), -4);
    due.is("11: set(0, 9)", x.set(0, 9), -6);
    due.is("11: set(1, -1)", x.set(1, -1), -4);
    due.is("11: set(1, 100)", x.set(1, 100), -6);
    due.is("11: length and loss", x.count(3) * 100 + x.count(4), 100);
    due.is("12: order(102)", x.order(102), 210);
    due.is("12: order(210)", x.order(210), 102);
    int[] none = {211, 0, 10, 3210, 310, -210, 1210, 213, Integer.MAX_VALUE, Integer.MIN_VALUE};
    for (int digits : none) {
      due.is("12: order(" + digits + ")", x.order(digits), -1);
    }
    due.is("12: it is as it was", x.order(21), 210);
    due.is("12: person(1, 2)", x.person(1, 2), 0);
    due.is("12: person(2, 2)", x.person(2, 2), 1);
    due.is("12: person(0, 2)", x.person(0, 2), 2);
  }

  private static void ordersAfterLatecomers() {
    EverySecondWord x = Due.with("r0a0;e0;", "p0a;p0a;");
    due.is("12: order(1)", x.order(1), 10);
    due.is("12: one comes later", Due.tongue(x, "p0a;"), 1);
    due.is("12: it is behind", x.order(201), 201);
    due.is("12: whose turn", x.talk(4), 1);
    x.say(0);
    due.is("12: whose turn then", x.talk(4), 0);
    x.say(0);
    due.is("12: whose turn then", x.talk(4), 2);
    due.is("12: none, though words were said", x.order(0), -1);
    due.is("12: words were said", x.order(210), -3);
    x.say(0);
    due.is("12: whose turn around", x.talk(4), 1);
    x.anew();
    x.stop();
    due.is("12: a stop is no word", x.order(210), 201);
    due.is("12: and stays", x.talk(3), 1);
  }

  private static void promises13To17() {
    EverySecondWord x = Due.with("r0a1A;r1b0A;r1c2B;r0c3;e1;e2;", "p0ac;p0bc;");
    due.is("17: MAY", x.talk(5), 5);
    due.is("17: no END", x.talk(6), 0);
    due.is("13: say(8)", x.say(8), -1);
    due.is("13: say(-1)", x.say(-1), -1);
    due.is("13: say(1), which it has not", x.say(1), -3);
    due.is("14: stop() in no END", x.stop(), -3);
    due.is("15: back() of nothing", x.back(), -3);
    due.is("16: anew() of nothing", x.anew(), 0);
    due.is("13: say(0)", x.say(0), 1);
    due.is("17: meaning", x.talk(1), 1);
    due.is("17: words said", x.talk(2), 1);
    due.is("17: whose turn", x.talk(4), 1);
    due.is("17: MAY", x.talk(5), 6);
    due.is("17: may be stopped", x.talk(6), 1);
    due.is("13: say(0), by which there is no rule", x.say(0), -3);
    due.is("13: say(1)", x.say(1), 0);
    due.is("17: the mark was in it", x.talk(1), 0);
    due.is("15: back()", x.back(), 1);
    due.is("17: the mark is in it again", x.talk(1), 1);
    due.is("17: the state", x.talk(0), 1);
    due.is("14: stop()", x.stop(), 1);
    due.is("17: OVER", x.talk(3), 1);
    due.is("17: stopped, nobody's turn", x.talk(4), -9);
    due.is("17: OVER, no word", x.talk(5), 0);
    due.is("17: OVER, no stop", x.talk(6), 0);
    due.is("13: say when OVER", x.say(1), -3);
    due.is("14: stop when OVER", x.stop(), -3);
    due.is("15: a stop taken back", x.back(), 1);
    due.is("17: not OVER", x.talk(3), 0);
    due.is("17: whose turn again", x.talk(4), 1);
    due.is("13: say(2)", x.say(2), 2);
    due.is("17: meaning", x.talk(1), 3);
    due.is("17: OVER by itself", x.talk(3), 1);
    due.is("17: OVER by itself, nobody's turn", x.talk(4), -9);
    due.is("14: no stop then", x.stop(), -3);
    due.is("16: anew()", x.anew(), 2);
    due.is("16: words said", x.talk(2), 0);
    due.is("13: say(2)", x.say(2), 3);
    due.is("17: STUCK", x.talk(3), 2);
    due.is("17: STUCK, nobody's turn", x.talk(4), -9);
    due.is("13: say when STUCK", x.say(2), -3);
    due.is("17: talk(7)", x.talk(7), -2);
    due.is("17: talk(-1)", x.talk(-1), -2);
    due.is("refusals -1", x.count(11), 2);
    due.is("refusals -2", x.count(12), 2);
    due.is("refusals -3", x.count(13), 8);
  }

  private static void talksThatEnd() {
    EverySecondWord x = Due.with("r0a1;r1a0;e1;l3;", "p0a;");
    x.say(0);
    x.say(0);
    due.is("17: not yet LENGTH", x.talk(3), 0);
    x.say(0);
    due.is("17: LENGTH in an END", x.talk(3), 1);
    due.is("17: LENGTH in an END, nobody's turn", x.talk(4), -9);
    due.is("17: no words", x.talk(5), 0);
    due.is("13: no word more", x.say(0), -3);
    due.is("14: no stop", x.stop(), -3);
    x.back();
    x.set(0, 2);
    due.is("17: LENGTH in no END", x.talk(3), 2);
    EverySecondWord nobody = Due.with("r0a0;e0;");
    due.is("17: nobody in an END", nobody.talk(3), 1);
    due.is("17: nobody's turn", nobody.talk(4), -9);
    due.is("13: nobody", nobody.say(0), -3);
    due.is("14: nobody", nobody.stop(), -3);
    EverySecondWord y = Due.with("r0a1;r1a0;l1;", "p0a;");
    y.say(0);
    due.is("17: STUCK at LENGTH", y.talk(3), 2);
    due.is("17: nobody's turn at LENGTH", y.talk(4), -9);
    y.back();
    due.is("17: whose turn ahead of it", y.talk(4), 0);
  }

  private static void talksThatChangeBehind() {
    EverySecondWord x = Due.with("r0a1;r1a2;r2a3;", "p0a;");
    x.say(0);
    x.say(0);
    x.set(0, 1);
    due.is("17: LENGTH below what was said", x.talk(3), 2);
    due.is("17: how many", x.talk(2), 2);
    due.is("25: holds", x.holds(0), 2);
    due.is("15: back()", x.back(), 1);
    x.set(0, 6);
    x.word(0, 0, false);
    due.is("17: STUCK without the word", x.talk(3), 2);
    x.word(0, 0, true);
    due.is("17: not with it", x.talk(3), 0);
  }

  private static void kindsOfSayers() {
    EverySecondWord x = Due.with(TASTES);
    int[] deeds = {1, 0, 2, 3, 1, 8, 1};
    for (int kind = 0; kind < 7; kind++) {
      x.kind(0, kind);
      due.is("18: does() of kind " + kind, x.does(), deeds[kind]);
    }
    x.values(0, 1, -9);
    x.values(0, 2, -9);
    x.values(0, 0, -9);
    x.kind(0, 6);
    due.is("18: greedy, the first of D and a stop", x.does(), 3);
    x.word(0, 3, false);
    due.is("18: greedy stops", x.does(), 8);
    x.kind(0, 0);
    due.is("18: best stops", x.does(), 8);
    x.kind(0, 1);
    due.is("18: plain does not", x.does(), 0);
    x.word(0, 0, false);
    x.word(0, 1, false);
    x.word(0, 2, false);
    due.is("18: nothing, no word may be said", x.does(), -9);
  }

  private static void deedsOverSeveralTurns() {
    EverySecondWord x = Due.with("l2;r0a1A;r0b1;r1a2A;r1b2B;e2;", "p6ab;p1a;v0A+5;");
    due.is("18: greedy", x.does(), 0);
    x.kind(0, 0);
    due.is("18: best", x.does(), 1);
    EverySecondWord y = Due.with(SIGHT);
    due.is("18: blind", y.does(), 0);
    due.is("21: its end", y.value(0), 0);
    y.kind(0, 0);
    due.is("18: best", y.does(), 1);
    due.is("21: its end", y.value(0), 1);
    EverySecondWord z = Due.with("l3;r0a1;r0b2;r1a3A;r1b3;r2a3;r3a4;r3b4B;e4;", "p2ab;p0ab;v1A+3;v0B+9;");
    due.is("18: spite looks two turns on", z.does(), 1);
    z.kind(0, 3);
    due.is("18: kind looks two turns on", z.does(), 0);
    EverySecondWord v = Due.with("r0a1;r0b2A;e2;", "p2ab;p1;p1;v1A+1;v2A+1;");
    due.is("18: STUCK is the worst for the others", v.does(), 0);
    v.set(1, 0);
    v.values(1, 0, -1);
    v.values(2, 0, -1);
    due.is("18: without LOSS it is not", v.does(), 1);
  }

  private static void promises18To21() {
    EverySecondWord x = Due.with("r0a1A;r1b1B;e1;l3;", "p0a;p5b;v0B-4;v1A+2;v1B+1;");
    due.is("18: does()", x.does(), 0);
    due.is("20: ends(0)", x.ends(0), 1);
    due.is("20: ends(1)", x.ends(1), 0);
    due.is("20: ends(2)", x.ends(2), 1);
    due.is("20: ends(3)", x.ends(3), -2);
    due.is("20: ends(-1)", x.ends(-1), -2);
    due.is("21: value(0)", x.value(0), 0);
    due.is("21: value(1)", x.value(1), 2);
    due.is("21: value(2)", x.value(2), 1000000001);
    due.is("21: value(-1)", x.value(-1), 1000000001);
    due.is("20: nothing is done", x.talk(2), 0);
    due.is("19: goes()", x.goes(), 0);
    due.is("17: words said", x.talk(2), 1);
    due.is("19: goes() stops", x.goes(), 8);
    due.is("17: OVER", x.talk(3), 1);
    due.is("18: nothing", x.does(), -9);
    due.is("19: nothing", x.goes(), -3);
    due.is("20: ends(0) when OVER", x.ends(0), 1);
    due.is("20: ends(2) when OVER", x.ends(2), 1);
    x.back();
    x.kind(1, 1);
    due.is("20: 0 has no b: OVER in the END", x.ends(2), 2);
    due.is("20: ends(0)", x.ends(0), 3);
    due.is("21: value(0)", x.value(0), -4);
    EverySecondWord y = Due.with("r0a1A;", "p0a;v0A+9;");
    due.is("20: ends(0) STUCK", y.ends(0), 1);
    due.is("20: ends(1) STUCK", y.ends(1), 1);
    due.is("21: value(0) STUCK", y.value(0), -5);
    EverySecondWord nobody = new EverySecondWord();
    due.is("18: nobody", nobody.does(), -9);
    due.is("19: nobody", nobody.goes(), -3);
    due.is("20: nobody", nobody.ends(2), -3);
    due.is("20: another what first", nobody.ends(3), -2);
    due.is("21: nobody", nobody.value(0), 1000000001);
  }

  private static void promises22To26() {
    EverySecondWord x = Due.with(LAST_WORD);
    due.is("22: forces(0, 0)", x.forces(0, 0), 0);
    due.is("22: forces(1, 0)", x.forces(1, 0), 1);
    due.is("22: forces(1, 1)", x.forces(1, 1), 0);
    due.is("23: keeps(0, 0)", x.keeps(0, 0), 0);
    due.is("23: keeps(1, 0)", x.keeps(1, 0), 1);
    due.is("23: keeps(0, 1)", x.keeps(0, 1), 1);
    due.is("24: sticks(1)", x.sticks(1), 0);
    for (int one : new int[] {-1, 2}) {
      due.is("22: forces(nobody)", x.forces(one, 0), -1);
      due.is("23: keeps(nobody)", x.keeps(one, 0), -1);
      due.is("24: sticks(nobody)", x.sticks(one), -1);
      due.is("25: holds(nobody)", x.holds(one), -1);
      due.is("26: sure(nobody)", x.sure(one), 1000000001);
      due.is("22: forces(no mark)", x.forces(0, one == 2 ? 6 : -1), -1);
      due.is("23: keeps(no mark)", x.keeps(0, one == 2 ? 6 : -1), -1);
    }
    x.say(0);
    x.say(0);
    due.is("22: forces(0, 0) when OVER with A", x.forces(0, 0), 1);
    due.is("23: keeps(1, 0) when OVER with A", x.keeps(1, 0), 0);
    EverySecondWord y = Due.with("r0a1;r0b2A;e2;", "p0ab;p0ab;v0A-7;");
    due.is("24: sticks(0)", y.sticks(0), 1);
    due.is("24: sticks(1)", y.sticks(1), 0);
    due.is("23: keeps(0, 0) by STUCK", y.keeps(0, 0), 1);
    due.is("26: sure(0): STUCK is less bad", y.sure(0), -5);
    y.set(1, 9);
    due.is("26: sure(0): now it is not", y.sure(0), -7);
    due.is("26: sure(1)", y.sure(1), -9);
    EverySecondWord z = Due.with("l5;r0a0A;e0;", "p0a;p0a;v0A+3;");
    due.is("25: holds(0)", z.holds(0), 1);
    due.is("25: holds(1)", z.holds(1), 0);
    due.is("22: forces(0, 0): it says the last word, too", z.forces(0, 0), 1);
    due.is("26: sure(0): likewise", z.sure(0), 3);
    z.set(0, 4);
    due.is("22: forces(0, 0): the other says the last word", z.forces(0, 0), 0);
    due.is("26: sure(0): it stops", z.sure(0), 0);
    due.is("23: keeps(0, 0): it stops", z.keeps(0, 0), 1);
    z.say(0);
    z.stop();
    due.is("25: holds when stopped", z.holds(1), 1);
    due.is("22: forces when stopped", z.forces(1, 0), 1);
    due.is("26: sure when stopped", z.sure(0), 3);
    due.is("24: sticks when stopped", z.sticks(0), 0);
    EverySecondWord v = Due.with("l5;r0a0;", "p0a;p0a;");
    due.is("25: nobody can stop", v.holds(1), 5);
    due.is("24: all stick", v.sticks(1), 1);
    due.is("26: sure of LOSS", v.sure(1), -5);
    due.is("26: SIGHT", Due.with(SIGHT).sure(0), 1);
  }

  private static void whatOneIsSureOf() {
    EverySecondWord x = Due.with("l6;r0a1A;r1a2B;r2a3C;r3a4D;r4a5E;r5a6F;e6;", "p0a;");
    for (int mark = 0; mark < 6; mark++) {
      x.values(0, mark, 9);
    }
    due.is("26: the most of all", x.sure(0), 54);
    for (int mark = 0; mark < 6; mark++) {
      x.values(0, mark, -9);
    }
    due.is("26: less than LOSS", x.sure(0), -54);
    x.set(0, 5);
    x.set(1, 99);
    due.is("26: LOSS alone", x.sure(0), -99);
    x.set(1, 0);
    due.is("26: no LOSS", x.sure(0), 0);
    EverySecondWord y = Due.with("l1;r0a1A;r0b1A;r0c1;e1;", "p0ab;p0;v0A+4;");
    due.is("36: least(0, 0)", y.least(0, 0), 3);
    due.is("26: no rule is gone", y.sure(0), 4);
    due.is("36: least(0, 0)", y.least(0, 0), 3);
    due.is("22: no rule is gone", y.forces(0, 0), 1);
    due.is("36: least(0, 0)", y.least(0, 0), 3);
    due.is("25: no rule is gone", y.holds(0), 1);
  }

  private static void promises27To28() {
    EverySecondWord x = Due.with("l2;r0a1A;r0b1F;r1a2;r1b2A;r1c3C;e1;e2;", "p0ab;p0abc;");
    // a: A; aa: A; ab: none; b: F; ba: F; bb: A and F; ac, bc: STUCK
    due.is("27: meanings(-1)", x.meanings(-1), 4);
    due.is("27: meanings(0)", x.meanings(0), 0);
    due.is("27: meanings(1)", x.meanings(1), 1);
    due.is("27: meanings(2)", x.meanings(2), 32);
    due.is("27: meanings(3)", x.meanings(3), 33);
    due.is("27: meanings(4)", x.meanings(4), -9);
    due.is("27: meanings(-2)", x.meanings(-2), -4);
    due.is("28: canStick()", x.canStick(), 1);
    x.word(1, 2, false);
    due.is("28: canStick() without c", x.canStick(), 0);
    x.say(1);
    due.is("27: meanings(-1) behind b", x.meanings(-1), 2);
    x.stop();
    due.is("27: meanings(-1) when stopped", x.meanings(-1), 1);
    due.is("27: meanings(0) when stopped", x.meanings(0), 32);
    due.is("28: canStick() when stopped", x.canStick(), 0);
    EverySecondWord nobody = new EverySecondWord();
    due.is("27: nobody", nobody.meanings(0), -3);
    due.is("27: too low, though nobody", nobody.meanings(-2), -4);
    due.is("28: nobody", nobody.canStick(), -3);
    due.is("28: refusals", nobody.count(13), 2);
    EverySecondWord stuck = Due.with("p0a;");
    due.is("27: no end but STUCK", stuck.meanings(-1), 0);
    due.is("27: none such", stuck.meanings(0), -9);
    due.is("28: STUCK", stuck.canStick(), 1);
  }

  private static void promises29To31() {
    EverySecondWord x = Due.with("l1;r0a1A;r0b1B;r0c1C;e1;", "p0a;p0b;p0c;v0B+3;v0C+3;v1C+2;v2A-1;v2C-2;");
    due.is("29: begins(0)", x.begins(0), 1);
    due.is("29: begins(1)", x.begins(1), 2);
    due.is("29: begins(2)", x.begins(2), 1);
    due.is("30: turns(0)", x.turns(0), 201);
    due.is("30: turns(1)", x.turns(1), 102);
    due.is("30: turns(2)", x.turns(2), 201);
    x.order(102);
    due.is("29: from another order, begins(0)", x.begins(0), 0);
    due.is("29: from another order, begins(2)", x.begins(2), 2);
    due.is("30: from another order", x.turns(0), 201);
    due.is("29: the order stays", x.order(102), 102);
    due.is("29: nobody", x.begins(3), -1);
    due.is("29: nobody", x.begins(-1), -1);
    due.is("30: nobody", x.turns(3), -1);
    due.is("31: nobody", x.buys(3), -1);
    x.say(2);
    due.is("29: from the beginning", x.begins(1), 0);
    due.is("29: in mind", x.talk(2), 1);
    EverySecondWord y = Due.with("l2;r0a1;r0b2A;r0c2A;r1a3B;r1b3;r2a3;e3;", "p0a;p2ab;v0A+1;v0B+5;");
    due.is("31: buys(0)", y.buys(0), 1);
    due.is("31: buys(1)", y.buys(1), -9);
    y.word(0, 1, true);
    due.is("31: nothing more", y.buys(0), -9);
    due.is("31: it has none more", y.person(0, 1), 3);
  }

  private static void promises32To35() {
    EverySecondWord y = Due.with("l2;r0a1;r0b2A;r1a3B;r1b3;r2a3;e3;", "p0a;p2ab;v0A+1;v0B+5;");
    due.is("32: price(0, 1)", y.price(0, 1), 1);
    due.is("32: price of what it has", y.price(0, 0), 0);
    due.is("32: price(0, 7)", y.price(0, 7), 0);
    due.is("33: lacks(0, 0): STUCK", y.lacks(0, 0), -5);
    due.is("33: lacks(0, 1)", y.lacks(0, 1), 0);
    due.is("33: without b it says a, which is worth nothing to it either", y.lacks(1, 1), 0);
    for (int no : new int[] {-1, 2}) {
      due.is("32: nobody", y.price(no, 0), 1000000001);
      due.is("33: nobody", y.lacks(no, 0), 1000000001);
      due.is("34: nobody", y.knows(no), 1000000001);
      due.is("35: nobody", y.as(no), -1);
    }
    due.is("32: no word", y.price(0, 8), 1000000001);
    due.is("33: no word", y.lacks(0, -1), 1000000001);
    due.is("refusals", y.count(11), 10);
    due.is("32: a price below 0", Due.with("r0b1;r0a1A;e1;", "p1b;v0A-9;").price(0, 0), -9);
    EverySecondWord x = Due.with(SIGHT);
    due.is("34: knows(0)", x.knows(0), 1);
    due.is("34: knows(1)", x.knows(1), 0);
    due.is("34: it stays blind", x.person(0, 0), 4);
    due.is("35: as(0)", x.as(0), 0);
    due.is("35: as(1)", x.as(1), 0);
    x.values(1, 1, 4);
    due.is("35: as(1), plain: a blind one hopes for B", x.as(1), 0);
    x.kind(0, 0);
    due.is("35: told openly, as(1)", x.as(1), 0);
    x.values(1, 1, -1);
    x.values(1, 0, -3);
    due.is("35: as plain it draws B, not A", x.as(1), 1);
    due.is("35: it stays as it is", x.person(1, 0), 2);
    due.is("34: none is blind", x.knows(0), 0);
  }

  private static void promise36() {
    EverySecondWord x = Due.with(LAST_WORD);
    due.is("36: least(1, 0)", x.least(1, 0), 4);
    due.is("36: least(0, 0)", x.least(0, 0), 0);
    due.is("36: least(1, 5)", x.least(1, 5), 0);
    x.say(0);
    due.is("36: from the beginning", x.least(1, 0), 4);
    due.is("36: the rules stay", x.count(0), 4);
    due.is("36: nobody", x.least(2, 0), -1);
    due.is("36: nobody", x.least(-1, 0), -1);
    due.is("36: no mark", x.least(0, 6), -1);
    due.is("36: no mark", x.least(0, -1), -1);
    due.is("36: refusals", x.count(11), 4);
    due.is("36: three are needed", Due.with("l1;r0a1A;r0b1A;r0c1A;e1;", "p0abc;").least(0, 0), -9);
    due.is("36: two are needed", Due.with("l1;r0c2;r0a1A;r2a1;r0b1A;e1;", "p0abc;").least(0, 0), 10);
    due.is("36: one is", Due.with("l1;r0a2;r0b1A;e1;", "p0abc;").least(0, 0), 2);
    due.is("36: the least two", Due.with("l2;r0a1A;r1a3;r0b2A;r2a3;e3;", "p0ab;").least(0, 0), 5);
  }

  private static void promise37() {
    EverySecondWord x = Due.with(TASTES);
    due.is("37: nothing was said", x.kinds(0), 127);
    x.say(1);
    due.is("37: b: best, blind, greedy", x.kinds(0), 1 + 16 + 64);
    due.is("37: the other said nothing", x.kinds(1), 127);
    due.is("37: the kind stays", x.person(0, 0), 0);
    x.word(0, 1, false);
    due.is("37: it has b no more", x.kinds(0), 0);
    x.word(0, 1, true);
    x.back();
    x.stop();
    due.is("37: a stop: brief", x.kinds(0), 32);
    for (int word = 0; word < 4; word++) {
      x.word(0, word, false);
    }
    due.is("37: no word may be said: nor stops", x.kinds(0), 0);
    due.is("37: nobody", x.kinds(2), -1);
    due.is("37: nobody", x.kinds(-1), -1);
    EverySecondWord y = Due.with("r0a0A;r0b0;e0;", "p1ab;p1ab;v0A+1;");
    y.say(0);
    y.say(0);
    y.say(1);
    y.say(1);
    y.stop();
    due.is("37: the second: a, b", y.kinds(1), 0);
    due.is("37: the first: a, b, a stop", y.kinds(0), 0);
    y.set(0, 2);
    due.is("37: LENGTH was less", y.kinds(1), 0);
    y.anew();
    y.say(0);
    due.is("37: LENGTH is 2", y.kinds(1), 127);
  }

  private static void promises38To39() {
    EverySecondWord x = Due.with("r0a1;r1b0;e0;l3;", "p0a;p0b;");
    due.is("38: row(8)", x.row(8), -1);
    due.is("38: row(-1)", x.row(-1), -1);
    due.is("39: an empty row", x.judge(), -9);
    int[] words = {0, 1, 0, 1};
    for (int i = 0; i < 3; i++) {
      due.is("38: row", x.row(words[i]), i + 1);
    }
    due.is("38: count(6)", x.count(6), 3);
    due.is("39: judge()", x.judge(), -9);
    due.is("39: the row has none", x.count(6), 0);
    for (int i = 0; i < 4; i++) {
      x.row(words[i]);
    }
    due.is("39: past LENGTH", x.judge(), 3);
    x.row(0);
    x.row(0);
    due.is("39: the second has no a", x.judge(), 1);
    x.row(1);
    x.say(0);
    due.is("39: from the beginning", x.judge(), 0);
    due.is("39: the talk stays", x.talk(2), 1);
    EverySecondWord nobody = Due.with("r0a0;");
    for (int i = 1; i <= 8; i++) {
      due.is("38: row", nobody.row(7), i);
    }
    due.is("38: a ninth", nobody.row(7), -6);
    due.is("38: no word, though full", nobody.row(8), -1);
    due.is("39: nobody", nobody.judge(), -3);
    due.is("39: it stays", nobody.count(6), 8);
    due.is("refusals", nobody.count(13) * 10 + nobody.count(16), 11);
  }

  private static void promise40() {
    // From 1 the numbers drawn are 16838, 5758, 10113, 17515.
    EverySecondWord x = Due.with("l1;r0a1A;r0b1B;r0c1C;e1;", "p0abc;v0A+1;v0B+3;v0C+9;");
    due.is("40: c", x.seeds(0, 1, 1), 9);
    due.is("40: c, b, a, b", x.seeds(0, 4, 1), 16);
    Due.tongue(x, "e0;");
    due.is("40: c, c, b, a stop", x.seeds(0, 4, 1), 21);
    due.is("40: nothing is kept", x.seeds(0, 4, 1), 21);
    due.is("40: the talk stays", x.talk(2), 0);
    EverySecondWord y = Due.with("l2;r0a1;r1a2A;r1b2B;r1c3;e2;", "p0ab;v0A+1;v0B+3;");
    due.is("40: a draw of one, too", y.seeds(0, 2, 1), 4);
    y.set(0, 1);
    due.is("40: STUCK", y.seeds(0, 20, -77), -100);
    due.is("40: nobody", y.seeds(1, 0, 1), 1000000001);
    due.is("40: nobody", y.seeds(-1, 0, 1), 1000000001);
    due.is("40: too few", y.seeds(0, 0, 1), 1000000004);
    due.is("40: too many", y.seeds(0, 21, 1), 1000000006);
    due.is("40: refusals", y.count(11) * 100 + y.count(14) * 10 + y.count(16), 211);
    // From -1 the first z is -1103502900, without its sign's bit 1043980748: 15929 is drawn.
    due.is("40: a seed below 0", x.seeds(0, 1, -1), 3);
  }

  private static void promises41To42() {
    EverySecondWord x = Due.with("r0a0A;e0;l4;", "p3a;p1a;v0A+2;");
    due.is("42: there is none", x.restore(), -3);
    x.order(1);
    x.set(1, 44);
    x.say(0);
    Due.feed(x, "e5;");
    x.row(3);
    due.is("41: image()", x.image(), 1);
    x.say(0);
    x.say(0);
    x.anew();
    Due.tongue(x, "r0b1;");
    x.order(10);
    x.kind(0, 0);
    x.word(1, 0, false);
    x.values(0, 0, -2);
    x.set(0, 8);
    x.set(1, 1);
    Due.tongue(x, "r0b1;e1;p0b;");
    x.row(4);
    x.feed(65);
    x.rule(99, 0);
    due.is("42: restore()", x.restore(), 1);
    due.is("42: the talk", x.talk(1) * 10 + x.talk(2), 11);
    due.is("42: rules", x.count(0), 1);
    due.is("42: ends", x.count(1), 1);
    due.is("42: people", x.count(2), 2);
    due.is("42: length", x.count(3), 4);
    due.is("42: loss", x.count(4), 44);
    due.is("42: kind", x.person(0, 0), 3);
    due.is("42: words", x.person(1, 1), 1);
    due.is("42: place", x.person(1, 2), 0);
    due.is("42: worth", x.worth(0, 0), 2);
    due.is("42: the letters are not in it", x.count(5), 1);
    due.is("42: nor is the row", x.count(6), 2);
    due.is("42: nor are refusals", x.count(11), 1);
    x.stop();
    due.is("41: a stopped one", x.image(), 1);
    x.anew();
    due.is("42: a stopped one", x.restore(), 1);
    due.is("42: is OVER", x.talk(3), 1);
    x.anew();
    due.is("42: once more", x.restore(), 1);
    due.is("42: back to no stop", x.back(), 1);
  }

  private static void imageOfALongTalk() {
    EverySecondWord x = Due.with("l8;r0a1A;r1a0B;e0;", "p0a;p0a;p0a;");
    for (int i = 1; i <= 8; i++) {
      due.is("13: say(0)", x.say(0), i % 2);
    }
    due.is("41: eight words", x.image(), 8);
    x.anew();
    x.say(0);
    due.is("42: eight words", x.restore(), 8);
    due.is("42: their state", x.talk(0), 0);
    due.is("42: their meaning", x.talk(1), 0);
    due.is("42: OVER", x.talk(3), 1);
    due.is("42: nobody's turn", x.talk(4), -9);
    for (int i = 7; i >= 0; i--) {
      due.is("15: back()", x.back(), i);
      due.is("17: whose turn", x.talk(4), i % 3);
      due.is("15: the state", x.talk(0), i % 2);
      due.is("15: the meaning", x.talk(1), new int[] {0, 1, 3, 2}[i % 4]);
    }
  }

  private static void promise43() {
    EverySecondWord x = Due.with("r0a0A;r0b0;e0;e3;l4;", "p3a;");
    x.feed(65);
    x.row(0);
    x.row(0);
    int[] counts = {2, 2, 1, 4, 5, 1, 2};
    for (int i = 0; i < counts.length; i++) {
      due.is("43: count(" + i + ")", x.count(i), counts[i]);
    }
    for (int other : new int[] {-1, 7, 8, 9, 10, 17, 100, Integer.MIN_VALUE, Integer.MAX_VALUE}) {
      due.is("43: count(" + other + ")", x.count(other), -9);
    }
    x.end(9);
    x.talk(9);
    x.talk(9);
    x.restore();
    x.restore();
    x.restore();
    x.feed(-5);
    x.feed(999);
    x.feed(999);
    int[] refusals = {1, 2, 3, 1, 0, 2};
    for (int i = 0; i < refusals.length; i++) {
      due.is("43: count(" + (11 + i) + ")", x.count(11 + i), refusals[i]);
    }
  }
}
