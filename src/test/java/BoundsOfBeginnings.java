/** Promises 29 to 35 and 37: a test for each sentence of the document that names a boundary case. */
public final class BoundsOfBeginnings {
  private static final Due due = new Due();
  private static final int LEAST = Integer.MIN_VALUE;
  private static final int MOST = Integer.MAX_VALUE;
  /** Who begins says the only word, one of A, B, C, D. */
  private static final String[] ONE_WORD = {"l1;r0a1A;r0b1B;r0c1C;r0d1D;e1;", "p0a;p0b;p0c;p0d;"};
  /** By b all marks come, by a it is STUCK at once. */
  private static final String[] ALL_OR_STUCK = {"r0a7;r0b1A;r1b2B;r2b3C;r3b4D;r4b5E;r5b6F;e6;", "p1;"};
  /** A blind one takes the other for a plain one, which it is not. */
  private static final String[] SIGHT = {"l2;r0a1;r0b2A;r1a3B;r1b3;r2a3;e3;", "p4ab;p2ab;p1;v0A+1;v0B+5;v2A-3;"};

  public static void main(String[] args) throws IllegalAccessException {
    ByName.run(BoundsOfBeginnings.class, due);
  }

  private static EverySecondWord allOrStuck(int worth) {
    EverySecondWord x = Due.with(ALL_OR_STUCK);
    for (int mark = 0; mark < 6; mark++) {
      x.values(0, mark, worth);
    }
    x.set(1, 99);
    return x;
  }

  // ---- 29: BEGINS "of the ORDER turned by 0, 1, .. places that by which the end is worth most to one, of several
  // the least": "how many places it is turned. -1." ----

  static void promise29_noSuchPerson() {
    EverySecondWord x = Due.with(ONE_WORD);
    due.is("the last", x.begins(3), 0);
    for (int person : new int[] {-1, 4, LEAST, MOST}) {
      due.refused("begins", x, x::begins, person, -1);
    }
    EverySecondWord nobody = new EverySecondWord();
    due.refused("begins", nobody, nobody::begins, 0, -1);
  }

  static void promise29_oneAlone() {
    due.is("begins(0)", Due.with("r0a1A;e1;", "p0a;v0A+1;").begins(0), 0);
    due.is("with no word", Due.with("p0;").begins(0), 0);
  }

  static void promise29_ofSeveralTheLeast() {
    EverySecondWord x = Due.with(ONE_WORD);
    due.row("all alike: begins", x::begins, 0, 0, 0, 0);
    x.values(0, 1, 4);
    x.values(0, 2, 4);
    due.is("B and C alike", x.begins(0), 1);
    x.values(0, 0, 4);
    due.is("A, too", x.begins(0), 0);
    x.values(0, 3, 5);
    due.is("D is more", x.begins(0), 3);
  }

  static void promise29_turnedBy0To3Places() {
    EverySecondWord x = Due.with(ONE_WORD);
    for (int mark = 0; mark < 4; mark++) {
      x.values(mark, mark, 1);
    }
    due.row("begins", x::begins, 0, 1, 2, 3);
    x.order(213);
    due.row("begins from 3, 1, 2, 0:", x::begins, 3, 1, 2, 0);
    due.is("the order stays", x.order(213), 213);
  }

  static void promise29_fromTheBeginning() {
    EverySecondWord x = Due.with(ONE_WORD);
    x.values(0, 2, 1);
    x.say(0);
    due.is("begins(0) when OVER", x.begins(0), 2);
    due.row("the talk", x::talk, 1, 1, 1, 1);
    x.back();
    Due.tongue(x, "e0;");
    x.stop();
    due.is("begins(0) when stopped", x.begins(0), 2);
    due.is("it stays stopped", x.talk(3), 1);
  }

  // ---- 30: TURNS "of all ORDERS that by which the end is worth most to one, of several the first by who speaks
  // first, second, ..: as digits, the first the lowest digit". ----

  static void promise30_noSuchPerson() {
    EverySecondWord x = Due.with(ONE_WORD);
    due.is("the last", x.turns(3), 3210);
    for (int person : new int[] {-1, 4, LEAST, MOST}) {
      due.refused("turns", x, x::turns, person, -1);
    }
    EverySecondWord nobody = new EverySecondWord();
    due.refused("turns", nobody, nobody::turns, 0, -1);
  }

  static void promise30_ofSeveralTheFirst() {
    due.is("one alone", Due.with("r0a1A;e1;", "p0a;v0A+1;").turns(0), 0);
    due.row("two", Due.with("p0;p0;")::turns, 10, 10);
    due.row("three", Due.with("p0;p0;p0;")::turns, 210, 210, 210);
    due.row("four", Due.with("p0;p0;p0;p0;")::turns, 3210, 3210, 3210, 3210);
    EverySecondWord x = Due.with("p0;p0;p0;p0;");
    x.order(123);
    due.is("from another order", x.turns(0), 3210);
    EverySecondWord y = Due.with(ONE_WORD);
    y.values(0, 2, 1);
    due.is("the third first, then the first", y.turns(0), 3102);
    y.values(0, 3, 1);
    due.is("of the third and the fourth", y.turns(0), 3102);
    y.values(0, 3, 2);
    due.is("the fourth first", y.turns(0), 2103);
  }

  /** Each of the 24 orders of four is the only one by which a mark comes. */
  static void promise30_eachOrderOfFour() {
    int orders = 0;
    for (int code = 0; code < 256; code++) {
      int[] who = {code & 3, code >> 2 & 3, code >> 4 & 3, code >> 6};
      if ((1 << who[0] | 1 << who[1] | 1 << who[2] | 1 << who[3]) == 15) {
        StringBuilder text = new StringBuilder();
        for (int i = 0; i < 4; i++) {
          text.append('r').append(i).append((char) ('a' + who[i])).append(i + 1).append(i == 3 ? "A;" : ";");
        }
        EverySecondWord x = Due.with(text + "e4;", "p0a;p0b;p0c;p0d;v2A+1;");
        int digits = who[0] + 10 * who[1] + 100 * who[2] + 1000 * who[3];
        due.is("turns(2)", x.turns(2), digits);
        due.is("the order stays", x.order(3210), 3210);
        orders++;
      }
    }
    due.is("orders", orders, 24);
  }

  static void promise30_fromTheBeginning() {
    EverySecondWord x = Due.with(ONE_WORD);
    x.values(1, 1, 1);
    x.order(102);
    x.order(3012);
    Due.say(x, "c");
    due.is("turns(1) when OVER", x.turns(1), 3201);
    due.is("place", x.person(2, 2), 0);
    due.is("words said", x.talk(2), 1);
  }

  // ---- 31: BUYS "the word that one has not by which, if it had it, the end is worth most to it and more than now;
  // of several the least; -9 none". ----

  static void promise31_noSuchPerson() {
    EverySecondWord x = Due.with(ONE_WORD);
    due.is("the last", x.buys(3), -9);
    for (int person : new int[] {-1, 4, LEAST, MOST}) {
      due.refused("buys", x, x::buys, person, -1);
    }
    EverySecondWord nobody = new EverySecondWord();
    due.refused("buys", nobody, nobody::buys, 0, -1);
  }

  static void promise31_noneIsMoreThanNow() {
    EverySecondWord x = Due.with("r0a1A;r0b1B;r0c1C;r0h1D;e1;", "p0a;v0A+4;v0B+4;v0C+3;");
    due.is("B is worth as much as A", x.buys(0), -9);
    x.values(0, 1, 5);
    due.is("B is worth more", x.buys(0), 1);
    due.is("it has all", Due.with("r0a1A;e1;", "p0abcdefgh;v0A+4;").buys(0), -9);
    due.is("no rules", Due.with("p0;").buys(0), -9);
  }

  static void promise31_ofSeveralTheLeast() {
    EverySecondWord x = Due.with("r0a1A;r0b1B;r0g1C;r0h1D;e1;", "p0;v0A+1;v0B+4;v0C+4;v0D+4;");
    due.is("of b, g, h", x.buys(0), 1);
    x.values(0, 1, 0);
    due.is("of g, h", x.buys(0), 6);
    x.values(0, 3, 5);
    due.is("h is most", x.buys(0), 7);
    x.values(0, 0, 9);
    due.is("a is most", x.buys(0), 0);
  }

  /** "the word that one has not": what it has is none, though it is best. */
  static void promise31_aWordThatItHasNot() {
    EverySecondWord x = Due.with("r0a1A;r0b1B;e1;", "p0ab;v0A+4;");
    due.is("it has both", x.buys(0), -9);
    due.is("its words", x.person(0, 1), 3);
    x.word(0, 0, false);
    due.is("it has b alone", x.buys(0), 0);
    due.is("its words", x.person(0, 1), 2);
  }

  // ---- 32: PRICE "how much more the end is worth to one if it had it (may be below 0)". "-1 either." ----

  static void promise32_noSuchPersonOrWord() {
    EverySecondWord x = Due.with(ONE_WORD);
    due.is("the last", x.price(3, 7), 0);
    for (int person : new int[] {-1, 4, LEAST, MOST}) {
      due.refusedWorth("price of a to", x, i -> x.price(i, 0), person, -1);
    }
    for (int word : new int[] {-1, 8, 32, LEAST, MOST}) {
      due.refusedWorth("price to 0 of", x, i -> x.price(0, i), word, -1);
    }
    EverySecondWord nobody = new EverySecondWord();
    due.refusedWorth("price of a to", nobody, i -> nobody.price(i, 0), 0, -1);
  }

  static void promise32_noRules() {
    EverySecondWord x = Due.with("p0;p0a;");
    due.row("price(0, ..)", word -> x.price(0, word), 0, 0, 0, 0, 0, 0, 0, 0);
    due.row("price(1, ..)", word -> x.price(1, word), 0, 0, 0, 0, 0, 0, 0, 0);
  }

  static void promise32_aWordThatItHas() {
    EverySecondWord x = Due.with("r0a1A;r0b1B;e1;", "p0ab;v0A+9;v0B+9;");
    due.row("price(0, ..)", word -> x.price(0, word), 0, 0, 0, 0, 0, 0, 0, 0);
    due.is("its words", x.person(0, 1), 3);
  }

  static void promise32_theMostAndBelow0() {
    EverySecondWord x = allOrStuck(9);
    due.is("from STUCK to all marks", x.price(0, 1), 153);
    due.is("by a it is STUCK anyhow", x.price(0, 0), 0);
    due.is("by h it is STUCK anyhow", x.price(0, 7), 0);
    x.word(0, 1, true);
    due.is("a PLAIN would say a", x.price(0, 0), -153);
    due.is("its words", x.person(0, 1), 2);
  }

  // ---- 33: LACKS "likewise, if it had not (0, if it has not)". "Refused as told: -1 either." ----

  static void promise33_noSuchPersonOrWord() {
    EverySecondWord x = Due.with(ONE_WORD);
    due.is("the last", x.lacks(3, 7), 0);
    for (int person : new int[] {-1, 4, LEAST, MOST}) {
      due.refusedWorth("lacks of a to", x, i -> x.lacks(i, 0), person, -1);
    }
    for (int word : new int[] {-1, 8, 32, LEAST, MOST}) {
      due.refusedWorth("lacks to 0 of", x, i -> x.lacks(0, i), word, -1);
    }
    EverySecondWord nobody = new EverySecondWord();
    due.refusedWorth("lacks of a to", nobody, i -> nobody.lacks(i, 0), 0, -1);
  }

  static void promise33_aWordThatItHasNot() {
    EverySecondWord x = Due.with("r0a1A;r0b1B;e1;", "p0;v0A+9;v0B+9;");
    due.row("lacks(0, ..)", word -> x.lacks(0, word), 0, 0, 0, 0, 0, 0, 0, 0);
    due.is("its words", x.person(0, 1), 0);
  }

  static void promise33_theMostAndBelow0() {
    EverySecondWord x = allOrStuck(9);
    x.word(0, 1, true);
    due.is("from all marks to STUCK", x.lacks(0, 1), -153);
    x.word(0, 0, true);
    due.is("a PLAIN says a: without it b", x.lacks(0, 0), 153);
    due.is("b is never said", x.lacks(0, 1), 0);
    due.is("its words", x.person(0, 1), 3);
  }

  // ---- 34: KNOWS "how much more the end is worth to one, if all BLIND ones were BEST ones (may be below 0)". ----

  static void promise34_noSuchPerson() {
    EverySecondWord x = Due.with(ONE_WORD);
    due.is("the last", x.knows(3), 0);
    for (int person : new int[] {-1, 4, LEAST, MOST}) {
      due.refusedWorth("knows", x, x::knows, person, -1);
    }
    EverySecondWord nobody = new EverySecondWord();
    due.refusedWorth("knows", nobody, nobody::knows, 0, -1);
  }

  static void promise34_noRules() {
    due.row("knows", Due.with("p4a;p4;")::knows, 0, 0);
    due.row("knows, OVER at once", Due.with("e0;", "p4a;p4;")::knows, 0, 0);
  }

  static void promise34_noneIsBlind() {
    EverySecondWord x = Due.with(SIGHT);
    for (int kind = 0; kind <= 6; kind++) {
      x.kind(0, kind);
      due.is("knows(0) of kind " + kind, x.knows(0), kind == 4 ? 1 : 0);
      due.is("it stays", x.person(0, 0), kind);
    }
  }

  static void promise34_moreOrBelow0() {
    EverySecondWord x = Due.with(SIGHT);
    due.row("knows", x::knows, 1, 0, -3);
    due.is("it stays blind", x.person(0, 0), 4);
  }

  static void promise34_allBlindOnes() {
    EverySecondWord x = Due.with("r0a1;r0b2A;r1a3;r1b3B;r2a3;e3;", "p4ab;p4ab;p4;p4;v0A+1;v0B+5;v1B+1;v3B-9;");
    due.is("it fears a", x.value(0), 1);
    due.row("knows", x::knows, 4, 1, 0, -9);
    due.row("kind", person -> x.person(person, 0), 4, 4, 4, 4);
  }

  // ---- 35: AS "the KIND 0 .. 6 that one should be (told openly) .., of several the least". ----

  static void promise35_noSuchPerson() {
    EverySecondWord x = Due.with(ONE_WORD);
    due.is("the last", x.as(3), 0);
    for (int person : new int[] {-1, 4, LEAST, MOST}) {
      due.refused("as", x, x::as, person, -1);
    }
    EverySecondWord nobody = new EverySecondWord();
    due.refused("as", nobody, nobody::as, 0, -1);
  }

  static void promise35_ofSeveralTheLeast() {
    for (int kind = 0; kind <= 6; kind++) {
      EverySecondWord x = Due.with("r0a1A;e1;", "p0a;v0A+1;");
      x.kind(0, kind);
      due.is("all alike", x.as(0), 0);
      due.is("it stays", x.person(0, 0), kind);
    }
  }

  /** The first says b alone to one that is known to take A at once: any other kind would bring C or D. */
  static void promise35_asGreedyAlone() {
    EverySecondWord x = Due.with("r0a5;r0b1;r1a6C;r1b6A;r1c2B;r2a6D;e5;e6;",
        "p0ab;p0abc;v1A+2;v1B+1;v1D+9;v0A+1;v0C-9;v0D-5;");
    due.is("as(1)", x.as(1), 6);
    due.is("it stays", x.person(1, 0), 0);
    due.is("as a BEST", x.value(1), 0);
    x.kind(1, 6);
    due.is("as a GREEDY", x.value(1), 2);
    x.kind(1, 3);
    due.is("as(1), whatever it is", x.as(1), 6);
  }

  static void promise35_asBrief() {
    EverySecondWord x = Due.with("r0a1A;r0b2;r1a3B;r1b3;e1;e2;e3;", "p0ab;p0ab;v0A+1;v0B-2;v1B+3;v1A+2;");
    due.is("any other says B", x.as(1), 5);
    x.kind(1, 5);
    due.is("as a BRIEF", x.value(1), 2);
    x.kind(1, 0);
    due.is("as a BEST", x.value(1), 0);
  }

  // ---- 37: KINDS "for which what it said in the TALK so far .. is just what that KIND says: bits 0 .. 6. -1." ----

  static void promise37_noSuchPerson() {
    EverySecondWord x = Due.with(ONE_WORD);
    due.is("the last", x.kinds(3), 127);
    for (int person : new int[] {-1, 4, LEAST, MOST}) {
      due.refused("kinds", x, x::kinds, person, -1);
    }
    EverySecondWord nobody = new EverySecondWord();
    due.refused("kinds", nobody, nobody::kinds, 0, -1);
  }

  static void promise37_nothingWasSaid() {
    EverySecondWord x = Due.with("r0a0;e0;", "p0a;p0a;");
    due.row("kinds", x::kinds, 127, 127);
    x.say(0);
    due.is("the second said nothing", x.kinds(1), 127);
    EverySecondWord stuck = Due.with("p0a;");
    due.is("STUCK at once", stuck.kinds(0), 127);
  }

  static void promise37_allKindsOrNone() {
    EverySecondWord x = Due.with("r0a0;r0b0;l8;", "p0ab;");
    Due.say(x, "aaaaaaaa");
    due.is("the first of all alike", x.kinds(0), 127);
    x.back();
    Due.say(x, "b");
    due.is("the last word is not", x.kinds(0), 0);
    x.back();
    due.is("it is taken back", x.kinds(0), 127);
    x.anew();
    Due.say(x, "b");
    due.is("the first word is not", x.kinds(0), 0);
    due.is("the kind stays", x.person(0, 0), 0);
  }

  /** "(each word, and a stop, as the TALK stood ..)": in the END where all words are alike BRIEF alone stops. */
  static void promise37_aStop() {
    EverySecondWord x = Due.with("r0a0;e0;", "p0a;p0a;");
    x.stop();
    due.row("a stop without a word: kinds", x::kinds, 32, 127);
    x.back();
    due.row("it is taken back: kinds", x::kinds, 127, 127);
    x.say(0);
    x.stop();
    due.row("the second stopped: kinds", x::kinds, 95, 32);
    EverySecondWord bad = Due.with("r0a1A;e0;e1;", "p0a;p0;v0A-1;");
    bad.stop();
    due.is("all but PLAIN and SPITE stop", bad.kinds(0), 127 - 2 - 4);
  }

  static void promise37_eachKindsOwnWord() {
    EverySecondWord x = Due.with("l1;r0a1A;r0b1B;r0c1C;r0d1D;e0;e1;",
        "p0abcd;p1;v0A+1;v0B+5;v0C+3;v1A+4;v1B+2;v1C-9;v1D+9;");
    int[] fitting = {2, 1 + 16 + 64, 4, 8, 0};
    for (int word = 0; word < 4; word++) {
      x.say(word);
      due.is("kinds(0) behind " + word, x.kinds(0), fitting[word]);
      x.back();
    }
    x.stop();
    due.is("kinds(0) behind a stop", x.kinds(0), 32);
  }

  /** "where no word may be said any more a KIND does nothing, nor stops". */
  static void promise37_noWordMayBeSaidAnyMore() {
    EverySecondWord x = Due.with("r0a0;e0;", "p5a;p5a;");
    x.say(0);
    x.stop();
    due.row("kinds", x::kinds, 95, 32);
    x.word(1, 0, false);
    due.row("the second has no word any more: kinds", x::kinds, 95, 0);
    x.word(1, 0, true);
    x.word(0, 0, false);
    due.row("nor has the first: kinds", x::kinds, 0, 32);
    x.word(0, 0, true);
    x.set(0, 1);
    due.row("LENGTH words were said: kinds", x::kinds, 95, 0);
    x.set(0, 2);
    due.row("one word is left: kinds", x::kinds, 95, 32);
  }

  /** Where LENGTH is less than was said no KIND says the words behind it. */
  static void promise37_moreThanLengthWordsWereSaid() {
    EverySecondWord x = Due.with("r0a0;", "p0a;p0a;");
    Due.say(x, "aaa");
    x.set(0, 2);
    due.row("kinds", x::kinds, 0, 127);
    x.set(0, 1);
    due.row("kinds", x::kinds, 0, 0);
    x.set(0, 3);
    due.row("kinds", x::kinds, 127, 127);
  }

  /** Where the TALK is OVER by itself nobody stopped it. */
  static void promise37_overByItself() {
    EverySecondWord x = Due.with("r0a1;e1;", "p0a;p0a;");
    x.say(0);
    due.is("OVER", x.talk(3), 1);
    due.row("kinds", x::kinds, 127, 127);
  }

  /** "others by their KINDS". */
  static void promise37_othersByTheirKinds() {
    EverySecondWord x = Due.with("l2;r0a1;r0b2A;r1a3B;r1b3;r2a3;e3;", "p0ab;p1ab;v0A+1;v0B+5;v1B-1;");
    Due.say(x, "a");
    due.is("the other would say a", x.kinds(0) & 1, 1);
    x.kind(1, 0);
    due.is("the other would say b", x.kinds(0) & 1, 0);
    due.is("a BLIND one takes it for a PLAIN", x.kinds(0) & 16, 16);
  }
}
