/** Promises 4 to 12: a test for each sentence of the document that names a boundary case. */
public final class BoundsOfPeople {
  private static final Due due = new Due();
  private static final int LEAST = Integer.MIN_VALUE;
  private static final int MOST = Integer.MAX_VALUE;
  /** 24 rules, of which each text of eight has room. */
  private static final String[] FULL_OF_RULES = {
    "r0a0;r0b0;r0c0;r0d0;r0e0;r0f0;r0g0;r0h0;", "r1a0;r1b0;r1c0;r1d0;r1e0;r1f0;r1g0;r1h0;",
    "r2a0;r2b0;r2c0;r2d0;r2e0;r2f0;r2g0;r7h6F;"
  };
  private static final String[] FOUR = {"p0;p3a;p6h;p1abcdefgh;"};

  public static void main(String[] args) throws IllegalAccessException {
    ByName.run(BoundsOfPeople.class, due);
  }

  // ---- 4: "Of a RULE: from (what 0), WORD (1), to (2), MARK (3; -9 none). -1; -2." ----

  static void promise04_whatIsToldOfTheFirstRuleAndOfThe24th() {
    EverySecondWord x = Due.with(FULL_OF_RULES);
    due.row("rule(0, ..)", what -> x.rule(0, what), 0, 0, 0, -9);
    due.row("rule(23, ..)", what -> x.rule(23, what), 7, 7, 6, 5);
    due.refused("rule, what 0,", x, i -> x.rule(i, 0), 24, -1);
  }

  static void promise04_noSuchRule() {
    EverySecondWord x = Due.with("r0a1A;r1b2;");
    due.is("the last", x.rule(1, 0), 1);
    for (int rule : new int[] {-1, 2, 24, LEAST, MOST}) {
      due.refused("rule, what 0,", x, i -> x.rule(i, 0), rule, -1);
    }
  }

  static void promise04_noSuchWhat() {
    EverySecondWord x = Due.with("r0a1A;");
    due.is("the last what", x.rule(0, 3), 0);
    for (int what : new int[] {-1, 4, LEAST, MOST}) {
      due.refused("rule 0, what", x, i -> x.rule(0, i), what, -2);
    }
  }

  static void promise04_noSuchRuleIsToldAheadOfNoSuchWhat() {
    EverySecondWord x = Due.with("r0a1A;");
    due.refused("rule 1, what", x, i -> x.rule(1, i), 4, -1);
    due.refused("rule -1, what", x, i -> x.rule(-1, i), -1, -1);
  }

  // ---- 5: "Whether a STATE is an END: 1, 0. -1." ----

  static void promise05_states0To7() {
    EverySecondWord x = Due.with("e0;e7;");
    due.row("end", x::end, 1, 0, 0, 0, 0, 0, 0, 1);
    due.row("end of all", Due.with("e0;e1;e2;e3;e4;e5;e6;e7;")::end, 1, 1, 1, 1, 1, 1, 1, 1);
  }

  static void promise05_noSuchState() {
    EverySecondWord x = Due.with("e0;e1;e2;e3;e4;e5;e6;e7;");
    for (int state : new int[] {-1, 8, 31, 32, 39, -8, -32, LEAST, MOST}) {
      due.refused("end", x, x::end, state, -1);
    }
  }

  // ---- 6: "Of one of PEOPLE: KIND (what 0), WORDS (1), its place in the ORDER (2). -1; -2." ----

  static void promise06_theFirstAndTheFourth() {
    EverySecondWord x = Due.with(FOUR);
    due.row("person(0, ..)", what -> x.person(0, what), 0, 0, 0);
    due.row("person(2, ..)", what -> x.person(2, what), 6, 128, 2);
    due.row("person(3, ..)", what -> x.person(3, what), 1, 255, 3);
    x.order(213);
    due.row("place of person", i -> x.person(i, 2), 3, 1, 2, 0);
    due.refused("person, what 0,", x, i -> x.person(i, 0), 4, -1);
  }

  static void promise06_noSuchPerson() {
    EverySecondWord x = Due.with("p0;p1;");
    due.is("the last", x.person(1, 0), 1);
    for (int person : new int[] {-1, 2, 3, 4, LEAST, MOST}) {
      due.refused("person, what 0,", x, i -> x.person(i, 0), person, -1);
    }
  }

  static void promise06_noSuchWhat() {
    EverySecondWord x = Due.with("p0;p1;");
    due.is("the last what", x.person(1, 2), 1);
    for (int what : new int[] {-1, 3, LEAST, MOST}) {
      due.refused("person 0, what", x, i -> x.person(0, i), what, -2);
    }
  }

  static void promise06_noSuchPersonIsToldAheadOfNoSuchWhat() {
    EverySecondWord x = Due.with("p0;p1;");
    due.refused("person 2, what", x, i -> x.person(2, i), 3, -1);
    due.refused("person -1, what", x, i -> x.person(-1, i), -1, -1);
  }

  // ---- 7: "WORTH of a MARK to one. Refused as told: -1." ----

  static void promise07_marks0To5() {
    EverySecondWord x = Due.with("p0;p0;v0A-9;v0F+9;v1A+1;v1F-1;");
    due.row("worth(0, ..)", mark -> x.worth(0, mark), -9, 0, 0, 0, 0, 9);
    due.row("worth(1, ..)", mark -> x.worth(1, mark), 1, 0, 0, 0, 0, -1);
    for (int mark : new int[] {-1, 6, LEAST, MOST}) {
      due.refusedWorth("worth to 0 of", x, i -> x.worth(0, i), mark, -1);
    }
  }

  /** A mark too many of one is not the first of the next. */
  static void promise07_aMarkTooManyIsNoMarkOfTheNext() {
    EverySecondWord x = Due.with("p0;p0;v1A+1;v0F+2;");
    due.refusedWorth("worth to 0 of", x, i -> x.worth(0, i), 6, -1);
    due.refusedWorth("worth to 1 of", x, i -> x.worth(1, i), -1, -1);
  }

  static void promise07_noSuchPerson() {
    EverySecondWord x = Due.with("p0;");
    due.is("the last", x.worth(0, 0), 0);
    for (int person : new int[] {-1, 1, 4, LEAST, MOST}) {
      due.refusedWorth("worth of A to", x, i -> x.worth(i, 0), person, -1);
    }
    EverySecondWord nobody = new EverySecondWord();
    due.refusedWorth("worth of A to", nobody, i -> nobody.worth(i, 0), 0, -1);
  }

  // ---- 8: "It becomes v: what it was. Refused as told: -1; -4; -6 9." ----

  static void promise08_worthsFromMinus9To9() {
    EverySecondWord x = Due.with("p0;");
    due.is("values(0, 0, -9)", x.values(0, 0, -9), 0);
    due.is("values(0, 0, 9)", x.values(0, 0, 9), -9);
    due.is("values(0, 0, 0)", x.values(0, 0, 0), 9);
    due.is("values(0, 0, 0)", x.values(0, 0, 0), 0);
    due.is("values(0, 0, 9)", x.values(0, 0, 9), 0);
    for (int v : new int[] {-10, -11, LEAST}) {
      due.refusedWorth("values of A to 0", x, i -> x.values(0, 0, i), v, -4);
    }
    for (int v : new int[] {10, 11, MOST}) {
      due.refusedWorth("values of A to 0", x, i -> x.values(0, 0, i), v, -6);
    }
    due.is("worth", x.worth(0, 0), 9);
  }

  static void promise08_noSuchPersonOrMark() {
    EverySecondWord x = Due.with("p0;p0;");
    due.is("the last", x.values(1, 5, 1), 0);
    for (int person : new int[] {-1, 2, LEAST, MOST}) {
      due.refusedWorth("values of A, 1, to", x, i -> x.values(i, 0, 1), person, -1);
    }
    for (int mark : new int[] {-1, 6, LEAST, MOST}) {
      due.refusedWorth("values, 1, to 0 of", x, i -> x.values(0, i, 1), mark, -1);
    }
    due.row("worth(1, ..)", mark -> x.worth(1, mark), 0, 0, 0, 0, 0, 1);
    due.row("worth(0, ..)", mark -> x.worth(0, mark), 0, 0, 0, 0, 0, 0);
  }

  static void promise08_noSuchPersonOrMarkIsToldFirst() {
    EverySecondWord x = Due.with("p0;");
    due.refusedWorth("values of A to 1", x, i -> x.values(1, 0, i), -10, -1);
    due.refusedWorth("values of A to 1", x, i -> x.values(1, 0, i), 10, -1);
    due.refusedWorth("values of no mark to 0", x, i -> x.values(0, 6, i), -10, -1);
    due.refusedWorth("values of no mark to 0", x, i -> x.values(0, -1, i), 10, -1);
  }

  static void promise08_itIsOnesOwnAlone() {
    EverySecondWord x = Due.with("p0;p0;p0;");
    x.values(1, 0, 4);
    x.values(1, 5, -4);
    due.row("worth(0, ..)", mark -> x.worth(0, mark), 0, 0, 0, 0, 0, 0);
    due.row("worth(1, ..)", mark -> x.worth(1, mark), 4, 0, 0, 0, 0, -4);
    due.row("worth(2, ..)", mark -> x.worth(2, mark), 0, 0, 0, 0, 0, 0);
  }

  // ---- 9: "KIND: what it was. -1 either." ----

  static void promise09_kinds0To6() {
    EverySecondWord x = Due.with("p3;p5;");
    due.is("kind(0, 0)", x.kind(0, 0), 3);
    due.is("kind(0, 6)", x.kind(0, 6), 0);
    due.is("kind(0, 6)", x.kind(0, 6), 6);
    for (int kind : new int[] {-1, 7, LEAST, MOST}) {
      due.refused("kind of 0:", x, i -> x.kind(0, i), kind, -1);
    }
    due.is("it stays", x.person(0, 0), 6);
    due.is("the other's stays", x.person(1, 0), 5);
  }

  static void promise09_noSuchPerson() {
    EverySecondWord x = Due.with("p3;p5;");
    due.is("the last", x.kind(1, 2), 5);
    for (int person : new int[] {-1, 2, 4, LEAST, MOST}) {
      due.refused("kind 0 of", x, i -> x.kind(i, 0), person, -1);
    }
    due.refused("no kind of", x, i -> x.kind(i, 7), 2, -1);
  }

  static void promise09_whenWordsWereSaidToo() {
    EverySecondWord x = Due.with("r0a0;e0;", "p1a;");
    x.say(0);
    due.is("kind(0, 5)", x.kind(0, 5), 1);
    due.is("does()", x.does(), 8);
  }

  // ---- 10: "One has a WORD, or not: 1; 0 it was so. -1 either." ----

  static void promise10_words0To7() {
    EverySecondWord x = Due.with("p0;p0abcdefgh;");
    for (int word = 0; word < 8; word++) {
      due.is("it has it not: word(0, " + word + ", false)", x.word(0, word, false), 0);
      due.is("now it has it: word(0, " + word + ", true)", x.word(0, word, true), 1);
      due.is("it has it: word(0, " + word + ", true)", x.word(0, word, true), 0);
      due.is("its words", x.person(0, 1), (2 << word) - 1);
      due.is("the other one has it: word(1, " + word + ", true)", x.word(1, word, true), 0);
      due.is("and now not: word(1, " + word + ", false)", x.word(1, word, false), 1);
    }
    due.is("all", x.person(0, 1), 255);
    due.is("none", x.person(1, 1), 0);
  }

  static void promise10_noSuchWord() {
    EverySecondWord x = Due.with("p0ah;");
    for (int word : new int[] {-1, 8, 32, 39, LEAST, MOST}) {
      due.refused("one has it: word of 0,", x, i -> x.word(0, i, true), word, -1);
      due.refused("one has it not: word of 0,", x, i -> x.word(0, i, false), word, -1);
    }
    due.is("its words", x.person(0, 1), 129);
  }

  static void promise10_noSuchPerson() {
    EverySecondWord x = Due.with("p0a;p0b;");
    due.is("the last", x.word(1, 0, true), 1);
    for (int person : new int[] {-1, 2, 4, LEAST, MOST}) {
      due.refused("word 0 of", x, i -> x.word(i, 0, false), person, -1);
    }
    due.refused("no word of", x, i -> x.word(i, 8, true), 2, -1);
  }

  // ---- 11: "LENGTH (what 0), LOSS (1): what it was. -2; -4; -6." ----

  static void promise11_length1To8() {
    EverySecondWord x = new EverySecondWord();
    due.is("set(0, 1)", x.set(0, 1), 6);
    due.is("set(0, 8)", x.set(0, 8), 1);
    due.is("set(0, 8)", x.set(0, 8), 8);
    for (int v : new int[] {0, -1, LEAST}) {
      due.refused("set length", x, i -> x.set(0, i), v, -4);
    }
    for (int v : new int[] {9, 10, MOST}) {
      due.refused("set length", x, i -> x.set(0, i), v, -6);
    }
    due.is("length", x.count(3), 8);
    due.is("loss", x.count(4), 5);
  }

  static void promise11_loss0To99() {
    EverySecondWord x = new EverySecondWord();
    due.is("set(1, 0)", x.set(1, 0), 5);
    due.is("set(1, 99)", x.set(1, 99), 0);
    due.is("set(1, 99)", x.set(1, 99), 99);
    for (int v : new int[] {-1, -2, LEAST}) {
      due.refused("set loss", x, i -> x.set(1, i), v, -4);
    }
    for (int v : new int[] {100, 101, MOST}) {
      due.refused("set loss", x, i -> x.set(1, i), v, -6);
    }
    due.is("loss", x.count(4), 99);
    due.is("length", x.count(3), 6);
  }

  static void promise11_noSuchWhat() {
    EverySecondWord x = new EverySecondWord();
    for (int what : new int[] {-1, 2, LEAST, MOST}) {
      due.refused("set of 3,", x, i -> x.set(i, 3), what, -2);
      due.refused("set below,", x, i -> x.set(i, -1), what, -2);
      due.refused("set above,", x, i -> x.set(i, 100), what, -2);
    }
    due.is("length and loss", x.count(3) * 100 + x.count(4), 605);
  }

  static void promise11_whenWordsWereSaidToo() {
    EverySecondWord x = Due.with("r0a0;e0;", "p0a;");
    Due.say(x, "aaa");
    due.is("LENGTH as many as were said", x.set(0, 3), 6);
    due.is("OVER", x.talk(3), 1);
    due.is("LENGTH one more", x.set(0, 4), 3);
    due.is("neither", x.talk(3), 0);
    due.is("LENGTH less", x.set(0, 1), 4);
    due.is("OVER", x.talk(3), 1);
    due.is("they stay said", x.talk(2), 3);
  }

  // ---- 12: "ORDER as digits, the first the lowest digit: what it was. -1 it is none (each once). -3 ..". ----

  static void promise12_theOrderOfNobody() {
    EverySecondWord x = new EverySecondWord();
    due.is("order(0)", x.order(0), 0);
    for (int digits : new int[] {1, 10, -1, LEAST, MOST}) {
      due.refused("order", x, x::order, digits, -1);
    }
  }

  static void promise12_theOrderOfOne() {
    EverySecondWord x = Due.with("p0;");
    due.is("order(0)", x.order(0), 0);
    for (int digits : new int[] {1, 10, 100, -10, LEAST, MOST}) {
      due.refused("order", x, x::order, digits, -1);
    }
  }

  static void promise12_theOrdersOfTwo() {
    EverySecondWord x = Due.with("p0;p0;");
    due.is("order(1)", x.order(1), 10);
    due.is("order(1)", x.order(1), 1);
    due.is("order(10)", x.order(10), 1);
    for (int digits : new int[] {0, 11, 2, 12, 20, 21, 101, 110, 210, -1, -10, LEAST, MOST}) {
      due.refused("order", x, x::order, digits, -1);
    }
    due.is("it stays", x.order(10), 10);
  }

  /** All numbers below 5000 and their opposites: 24 of them are orders of four. */
  static void promise12_theOrdersOfFour() {
    int orders = 0;
    EverySecondWord x = null;
    for (int digits = 0; digits < 5000; digits++) {
      if (digits % 200 == 0) {
        x = Due.with(FOUR);
      }
      String told = String.format("%04d", digits);
      boolean each = told.contains("0") && told.contains("1") && told.contains("2") && told.contains("3");
      due.is("whether " + digits + " is an order", x.order(digits) >= 0 ? 1 : 0, each ? 1 : 0);
      due.is("whether " + -digits + " is one", digits > 0 && x.order(-digits) >= 0 ? 1 : 0, 0);
      orders += each ? 1 : 0;
    }
    due.is("orders", orders, 24);
  }

  /** Digits too many, or so many that a number of them wraps around, are no order. */
  static void promise12_digitsTooManyAreNoOrder() {
    EverySecondWord x = Due.with(FOUR);
    for (int digits : new int[] {13210, 43210, 103210, 1000003210, -3210, LEAST, MOST, 2147480123, -1084479242}) {
      due.refused("order", x, x::order, digits, -1);
    }
    due.is("the least", x.order(123), 3210);
    due.is("the most", x.order(3210), 123);
  }

  /** "ORDER: who speaks first, second, .. (each once; as they came at first; one who comes later is behind)". */
  static void promise12_asTheyCameAtFirst() {
    due.is("two", Due.with("p0;p0;").order(10), 10);
    due.is("three", Due.with("p0;p0;p0;").order(210), 210);
    due.is("four", Due.with(FOUR).order(3210), 3210);
  }

  static void promise12_oneWhoComesLaterIsBehind() {
    EverySecondWord x = Due.with("p0;p0;");
    x.order(1);
    Due.tongue(x, "p0;p0;");
    due.is("two later ones", x.order(3210), 3201);
  }

  static void promise12_whoSpeaksFirstIsTheLowestDigit() {
    EverySecondWord x = Due.with("r0a0;e0;", "p0a;p0a;p0a;");
    x.order(102);
    due.row("place of person", i -> x.person(i, 2), 1, 2, 0);
    due.is("whose turn", x.talk(4), 2);
  }

  static void promise12_wordsWereSaidMinus3() {
    EverySecondWord x = Due.with("r0a0;e0;", "p0a;p0a;");
    x.say(0);
    due.refused("order", x, x::order, 1, -3);
    due.refused("order", x, x::order, 10, -3);
    x.stop();
    due.refused("order", x, x::order, 1, -3);
    x.back();
    x.back();
    due.is("no word is said any more", x.order(1), 10);
  }

  static void promise12_noOrderIsToldAheadOfWordsWereSaid() {
    EverySecondWord x = Due.with("r0a0;e0;", "p0a;p0a;");
    x.say(0);
    due.refused("order", x, x::order, 0, -1);
    due.refused("order", x, x::order, -1, -1);
  }

  static void promise12_aStopWithoutAWordIsNoWord() {
    EverySecondWord x = Due.with("r0a0;e0;", "p0a;p0a;");
    x.stop();
    due.is("order(1)", x.order(1), 10);
    due.is("OVER", x.talk(3), 1);
  }
}
