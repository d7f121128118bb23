/** Promises 18 to 21: a test for each sentence of the document that names a boundary case. */
public final class BoundsOfKinds {
  private static final Due due = new Due();
  private static final int LEAST = Integer.MIN_VALUE;
  private static final int MOST = Integer.MAX_VALUE;
  private static final int BEST = 0;
  private static final int PLAIN = 1;
  private static final int SPITE = 2;
  private static final int KIND = 3;
  private static final int BLIND = 4;
  private static final int BRIEF = 5;
  private static final int GREEDY = 6;
  private static final int[] WEIGHING = {BEST, SPITE, KIND, BLIND, GREEDY};
  /** Around all eight states by a: the last word alone has a mark, and 0 alone is an END. */
  private static final String[] AROUND = {
    "r0a1;r1a2;r2a3;r3a4;r4a5;r5a6;r6a7;r7a0A;e0;l8;", "p0a;v0A+1;"
  };
  /** b, c, d or a stop, with no mark; one more speaks never. */
  private static final String[] ALIKE = {"r0b1;r0c1;r0d1;e0;e1;", "p0abcd;p0;v0A+1;v1A+1;"};

  public static void main(String[] args) throws IllegalAccessException {
    ByName.run(BoundsOfKinds.class, due);
  }

  private static void does(String why, EverySecondWord x, int kind, int want) {
    x.kind(0, kind);
    due.is(why + ", does() of kind " + kind, x.does(), want);
  }

  // ---- 18: "the WORD; 8 it stops; -9 nothing." ----

  static void promise18_words0And7AndAStop() {
    EverySecondWord x = Due.with("r0a1;r1h2;r2b0;e2;", "p5abh;");
    due.is("does()", x.does(), 0);
    x.say(0);
    due.is("does()", x.does(), 7);
    x.say(7);
    due.is("does()", x.does(), 8);
    due.is("nothing is done", x.talk(3), 0);
  }

  static void promise18_nobodyDoesNothing() {
    due.is("does()", new EverySecondWord().does(), -9);
    due.is("in an END", Due.with("r0a0;e0;").does(), -9);
  }

  static void promise18_nothingIsDoneWhenOverOrStuck() {
    for (int kind = 0; kind <= 6; kind++) {
      EverySecondWord x = Due.with("r0a0;r0b1;e0;l8;", "p0ab;");
      x.stop();
      does("stopped", x, kind, -9);
      x.back();
      Due.say(x, "b");
      does("STUCK", x, kind, -9);
      Due.tongue(x, "e1;");
      x.anew();
      Due.tongue(x, "e1;");
      Due.say(x, "b");
      does("OVER by itself", x, kind, -9);
      x.anew();
      Due.say(x, "aaaaaaaa");
      does("LENGTH said in an END", x, kind, -9);
    }
  }

  static void promise18_theLastWordOfLength() {
    for (int kind = 0; kind <= 6; kind++) {
      EverySecondWord x = Due.with("r0a0;l8;", "p0a;");
      Due.say(x, "aaaaaaa");
      does("the eighth", x, kind, 0);
      x.say(0);
      does("a ninth", x, kind, -9);
      x.back();
      x.set(0, 7);
      does("the eighth of LENGTH 7", x, kind, -9);
    }
  }

  /** "Of several the first": the least word, and to stop behind all words. */
  static void promise18_ofSeveralTheFirst() {
    for (int kind : WEIGHING) {
      EverySecondWord x = Due.with(ALIKE);
      does("all alike", x, kind, 1);
      x.word(0, 1, false);
      does("without b", x, kind, 2);
      x.word(0, 2, false);
      does("a stop is behind the last word", x, kind, 3);
    }
  }

  /** "of all words that MAY be said, rising, and (in an END) to stop, behind them". */
  static void promise18_aStopThatIsWorthMoreThanAnyWord() {
    for (int kind : WEIGHING) {
      EverySecondWord x = Due.with("r0b1A;r0h1A;e0;e1;", "p0bh;p0bh;v0A-1;");
      x.values(1, 0, kind == SPITE ? 1 : 0);
      does("a stop", x, kind, 8);
      Due.tongue(x, "r0c1;");
      x.word(0, 2, true);
      does("a word that is worth as much", x, kind, 2);
    }
  }

  static void promise18_theLastOfAllIsWorthOneMore() {
    for (int kind : WEIGHING) {
      EverySecondWord x = Due.with("r0a1;r0b1;r0g1;r0h1A;e0;e1;", "p0abgh;p0;v0A+1;");
      x.values(1, 0, kind == SPITE ? -1 : 0);
      does("the last word", x, kind, 7);
    }
  }

  /** In no END nobody stops, though it were worth more. */
  static void promise18_noStopInNoEnd() {
    for (int kind = 0; kind <= 6; kind++) {
      EverySecondWord x = Due.with("r0c1A;e1;", "p0c;p0;v0A-9;");
      x.values(1, 0, kind == SPITE ? 9 : -9);
      does("the only word", x, kind, 2);
    }
  }

  /** "PLAIN the least word, to stop if there is none": where there is none, the TALK is OVER by itself. */
  static void promise18_plainSaysTheLeastWordInAnEndToo() {
    EverySecondWord x = Due.with("r0c1A;r0h2;e0;e1;e2;", "p1ch;v0A-9;");
    due.is("does()", x.does(), 2);
    x.word(0, 2, false);
    due.is("does()", x.does(), 7);
    x.word(0, 7, false);
    due.is("does()", x.does(), -9);
    due.is("OVER", x.talk(3), 1);
  }

  /** "BRIEF to stop, if it may, else as a PLAIN". */
  static void promise18_briefStopsIfItMay() {
    EverySecondWord x = Due.with("r0c1A;r1b1;r1d2A;e1;", "p5bcd;v0A+9;");
    due.is("it may not stop", x.does(), 2);
    x.say(2);
    due.is("it may", x.does(), 8);
    x.word(0, 1, false);
    x.word(0, 3, false);
    due.is("OVER by itself", x.does(), -9);
  }

  /** "GREEDY that by which WORTH to itself of the MEANING then .. is most": STUCK is nothing to it. */
  static void promise18_greedyLooksNoFurther() {
    EverySecondWord x = Due.with("r0a1A;r0b2;r2a3B;e3;", "p6ab;v0A+1;v0B+9;");
    due.is("a word that sticks", x.does(), 0);
    x.kind(0, BEST);
    due.is("a BEST looks further", x.does(), 1);
    EverySecondWord twice = Due.with("r0a0A;r0b0;e0;", "p6ab;v0A+1;");
    twice.say(0);
    due.is("A would not be in it then", twice.does(), 1);
    twice.word(0, 1, false);
    due.is("to stop: as it is", twice.does(), 8);
    EverySecondWord bad = Due.with("r0a0A;r0b0;e0;", "p6ab;v0A-1;");
    due.is("none is more than A", bad.does(), 1);
    bad.say(0);
    due.is("A would not be in it then", bad.does(), 0);
  }

  /** Where nobody else is, all are alike to a SPITE: "all WORTHS of the others together". */
  static void promise18_spiteAlone() {
    EverySecondWord x = Due.with("r0a1A;r0b2B;r0c3;e0;e1;e2;", "p2abc;v0A+9;v0B-9;");
    due.is("the first", x.does(), 0);
    x.word(0, 0, false);
    due.is("the first", x.does(), 1);
    x.word(0, 1, false);
    due.is("though it sticks", x.does(), 2);
  }

  /** "all WORTHS of the others together": LOSS of each of them. */
  static void promise18_spiteAgainstThree() {
    EverySecondWord x = Due.with("r0a1A;r0b2;e1;", "p2ab;p0;p0;p0;v0A+9;v1A-9;v2A-7;v3A+1;");
    due.is("-15 against thrice -5", x.does(), 0);
    x.values(3, 0, 2);
    due.is("-14 against thrice -5", x.does(), 1);
    x.values(1, 0, -5);
    x.set(1, 4);
    due.is("-10 against thrice -4", x.does(), 1);
    x.set(1, 3);
    due.is("-10 against thrice -3", x.does(), 0);
  }

  /** "KIND that by which all WORTHS of all are most": its own, too, and LOSS of each. */
  static void promise18_kindWithThree() {
    EverySecondWord x = Due.with("r0a1;r0b2A;e2;", "p3ab;p0;p0;p0;v0A-9;v1A-9;v2A-2;");
    due.is("-20 against four times -5: the first", x.does(), 0);
    x.values(2, 0, -1);
    due.is("-19 against four times -5", x.does(), 1);
    x.values(0, 0, 0);
    x.values(1, 0, -1);
    x.set(1, 0);
    due.is("-2 against none", x.does(), 0);
    EverySecondWord alone = Due.with("r0a1;r0b2A;e1;e2;", "p3ab;v0A+1;");
    due.is("alone as a BEST", alone.does(), 1);
  }

  /** "BLIND as a BEST, if all others were PLAIN": where nobody else is, just as a BEST. */
  static void promise18_blindAlone() {
    EverySecondWord x = Due.with(AROUND);
    does("to the eighth word", x, BLIND, 0);
    x.set(0, 7);
    does("STUCK at LENGTH 7", x, BLIND, 8);
  }

  /** "if all others were PLAIN (in its mind ..)": which never stop where they have a word. */
  static void promise18_blindThinksThatNobodyStops() {
    EverySecondWord x = Due.with("r0a1;r0b2A;r1b3B;r1c3;e1;e2;e3;", "p4ab;p5bc;v0A+1;v0B+5;");
    does("it hopes for B", x, BLIND, 0);
    due.is("but the other stops", x.value(0), 0);
    does("a BEST does not", x, BEST, 1);
    due.is("A is sure", x.value(0), 1);
  }

  /** "all others": those that are BLIND as well. */
  static void promise18_blindThinksThatTheBlindArePlain() {
    EverySecondWord x = Due.with("r0a1;r0b2A;r1a3;r1b3B;r2a3;e3;", "p4ab;p4ab;v0A+1;v0B+5;v1B+1;");
    does("it fears a", x, BLIND, 1);
    does("a BEST knows that b comes", x, BEST, 0);
    x.values(1, 1, 0);
    does("a BEST knows that a comes", x, BEST, 1);
  }

  /** "itself later as a BLIND": it hopes for what it will then say, which is not the least. */
  static void promise18_blindLaterIsBlind() {
    EverySecondWord x = Due.with("r0a1;r0b4A;r1a2;r2a3;r2b3B;r4a5;r5a3;e3;", "p4ab;p1a;v0A+1;v0B+5;");
    does("B by its second word", x, BLIND, 0);
    due.is("which it says", x.value(0), 5);
    x.values(0, 1, 1);
    does("B is worth as much as A", x, BLIND, 0);
    x.values(0, 1, 0);
    does("B is worth less", x, BLIND, 1);
  }

  /** "itself later as a BLIND", not as one that knows the others: it hopes to the end. */
  static void promise18_blindLaterIsBlindStill() {
    String[] world = {"r0a1;r0c5C;r1a2;r2a3;r2b4;r3a5B;r3b5;r4a5A;e5;", "p4abc;p2ab;v0A+1;v0B+5;v0C+3;"};
    EverySecondWord x = Due.with(world);
    does("B by the last word of the other", x, BLIND, 0);
    due.is("which is another", x.value(0), 0);
    does("a BEST knows that A is all", x, BEST, 2);
    x.values(0, 1, 2);
    does("B is worth less than C", x, BLIND, 2);
  }

  /** All that may be said, state, marks and words at their most, and one word more. */
  static void promise18_theLastPlaceOfAll() {
    String[] world = {"r0a1A;r1a2B;r2a3C;r3a4D;r4a5E;r5a6F;r6a7;r7a0;e0;l8;", "p0a;v0F+1;"};
    for (int kind : new int[] {BEST, KIND, BLIND}) {
      EverySecondWord x = Due.with(world);
      does("to the eighth word", x, kind, 0);
      Due.say(x, "aaaaaaa");
      does("the eighth word", x, kind, 0);
      due.row("ends", x::ends, 63, 0, 8);
      x.set(0, 7);
      x.anew();
      does("a stop: it would be STUCK", x, kind, 8);
    }
  }

  /** A LENGTH of 8 is looked through to its end, the first of eight words being said. */
  static void promise18_lookingToTheEighthWord() {
    for (int kind : new int[] {BEST, KIND, BLIND}) {
      EverySecondWord x = Due.with(AROUND);
      does("A at the eighth word", x, kind, 0);
      x.values(0, 0, -1);
      does("A is worth less than none", x, kind, 8);
      x.values(0, 0, 0);
      does("A is worth as much", x, kind, 0);
      x.values(0, 0, 9);
      x.set(0, 7);
      does("STUCK at LENGTH 7", x, kind, 8);
      x.set(1, 0);
      does("STUCK is worth as much", x, kind, 0);
    }
  }

  /** STUCK: "less LOSS alone" weighs as much as a WORTH of so much. */
  static void promise18_stuckOrAWorthAsBad() {
    EverySecondWord x = Due.with("r0a1A;r0b2;e1;", "p0ab;v0A-5;");
    due.is("as bad: the first", x.does(), 0);
    x.set(1, 4);
    due.is("STUCK is less bad", x.does(), 1);
    x.set(1, 6);
    due.is("STUCK is worse", x.does(), 0);
    EverySecondWord y = Due.with("r0a1;r0b2A;e2;", "p0ab;v0A-5;");
    due.is("as bad: the first", y.does(), 0);
    y.set(1, 6);
    due.is("STUCK is worse", y.does(), 1);
  }

  // ---- 19: "By its KIND it is done: likewise. -3 nothing." ----

  static void promise19_nothingMinus3() {
    EverySecondWord nobody = Due.with("r0a0;e0;");
    due.refused("goes", nobody, n -> nobody.goes(), 0, -3);
    EverySecondWord stopped = Due.with("r0a0;e0;", "p0a;");
    stopped.stop();
    due.refused("goes", stopped, n -> stopped.goes(), 0, -3);
    EverySecondWord stuck = Due.with("r0a1;", "p0a;");
    due.is("goes()", stuck.goes(), 0);
    due.refused("goes", stuck, n -> stuck.goes(), 0, -3);
    due.is("words said", stuck.talk(2), 1);
    EverySecondWord over = Due.with("e0;", "p0a;");
    due.refused("goes", over, n -> over.goes(), 0, -3);
  }

  static void promise19_eightWordsAndNoNinth() {
    EverySecondWord x = Due.with("r0h0A;l8;", "p1h;p1h;p1h;");
    for (int i = 1; i <= 8; i++) {
      due.is("goes()", x.goes(), 7);
      due.is("words said", x.talk(2), i);
      due.is("meaning", x.talk(1), i % 2);
    }
    due.refused("goes", x, n -> x.goes(), 0, -3);
    due.is("back()", x.back(), 7);
    due.is("goes()", x.goes(), 7);
  }

  static void promise19_itStops() {
    EverySecondWord x = Due.with("r0a0A;e0;", "p5a;");
    due.is("goes()", x.goes(), 8);
    due.row("talk", x::talk, 0, 0, 0, 1, -9, 0, 0);
    due.refused("goes", x, n -> x.goes(), 0, -3);
    due.is("the stop is taken back", x.back(), 0);
    due.is("neither", x.talk(3), 0);
  }

  /** "By its KIND it is done": by the worths, words and kinds as they are now. */
  static void promise19_whatChangesBehind() {
    EverySecondWord x = Due.with("r0a0A;r0b0B;e0;", "p0ab;v0A+1;l1;");
    due.is("A is worth most", x.goes(), 0);
    x.back();
    x.values(0, 1, 2);
    due.is("B is worth most", x.goes(), 1);
    x.back();
    x.word(0, 1, false);
    due.is("without b", x.goes(), 0);
    x.back();
    x.kind(0, BRIEF);
    due.is("as a BRIEF", x.goes(), 8);
    x.back();
    x.kind(0, BEST);
    x.values(0, 0, -1);
    due.is("A is worth less than none", x.goes(), 8);
    x.back();
    due.is("A is all there is", x.talk(5), 1);
    Due.tongue(x, "r0c0C;v0C+1;");
    x.word(0, 2, true);
    due.is("a new word", x.goes(), 2);
    x.back();
    x.image();
    x.values(0, 2, -1);
    due.is("C is worth less than none", x.goes(), 8);
    x.restore();
    due.is("restored", x.goes(), 2);
  }

  // ---- 20: "GOES ON: the MEANING (what 0), 1 STUCK (1), how many words in all (2). -2; -3 nobody." ----

  static void promise20_noSuchWhat() {
    EverySecondWord x = Due.with("r0a0;e0;", "p0a;");
    due.is("the last what", x.ends(2), 6);
    for (int what : new int[] {-1, 3, LEAST, MOST}) {
      due.refused("ends", x, x::ends, what, -2);
    }
  }

  static void promise20_nobody() {
    EverySecondWord x = Due.with("r0a0;e0;");
    for (int what = 0; what <= 2; what++) {
      due.refused("ends", x, x::ends, what, -3);
    }
  }

  static void promise20_noSuchWhatIsToldAheadOfNobody() {
    EverySecondWord x = new EverySecondWord();
    due.refused("ends", x, x::ends, 3, -2);
    due.refused("ends", x, x::ends, -1, -2);
  }

  static void promise20_noWordsOrEight() {
    EverySecondWord stuck = Due.with("p0a;");
    due.row("STUCK at once", stuck::ends, 0, 1, 0);
    EverySecondWord over = Due.with("e0;", "p0a;");
    due.row("OVER at once", over::ends, 0, 0, 0);
    EverySecondWord brief = Due.with("r0a0A;e0;", "p5a;");
    due.row("stopped at once", brief::ends, 0, 0, 0);
    EverySecondWord around = Due.with(AROUND);
    due.row("eight words", around::ends, 1, 0, 8);
    around.set(0, 7);
    due.row("a stop ahead of STUCK", around::ends, 0, 0, 0);
    around.kind(0, PLAIN);
    due.row("STUCK behind seven words", around::ends, 0, 1, 7);
  }

  /** From now: what was said counts in all, and words may have been said against all KINDS. */
  static void promise20_fromNow() {
    EverySecondWord x = Due.with("r0a0A;r0b0B;e0;l3;", "p1ab;");
    due.row("ends", x::ends, 1, 0, 3);
    Due.say(x, "bb");
    due.row("ends behind two", x::ends, 1, 0, 3);
    Due.say(x, "b");
    due.row("ends behind all", x::ends, 2, 0, 3);
    x.back();
    x.stop();
    due.row("ends when stopped", x::ends, 0, 0, 2);
    x.back();
    x.set(0, 1);
    due.row("ends when more than LENGTH words were said", x::ends, 0, 0, 2);
  }

  /** "its end (MEANING; STUCK or not)": one that is STUCK has a MEANING. */
  static void promise20_theMeaningOfOneThatIsStuck() {
    EverySecondWord x = Due.with("r0a1A;r1a2F;", "p0a;");
    due.row("ends", x::ends, 33, 1, 2);
    Due.say(x, "aa");
    due.row("ends when it is", x::ends, 33, 1, 2);
  }

  /** In an END the one who stops ends it, one ahead of whom no word may be said too. */
  static void promise20_overByItselfInAnEnd() {
    EverySecondWord x = Due.with("r0a1C;r1a0;e1;", "p1a;p1b;");
    due.row("ends", x::ends, 4, 0, 1);
  }

  // ---- 21: "WORTH of that end to one. Refused as told: -1." ----

  static void promise21_noSuchPerson() {
    EverySecondWord x = Due.with("r0a0;e0;", "p0a;p0a;");
    due.is("the last", x.value(1), 0);
    for (int person : new int[] {-1, 2, 4, LEAST, MOST}) {
      due.refusedWorth("value", x, x::value, person, -1);
    }
    EverySecondWord nobody = new EverySecondWord();
    due.refusedWorth("value", nobody, nobody::value, 0, -1);
  }

  /** "its WORTHS of all MARKS in the MEANING together". */
  static void promise21_allMarksTogether() {
    EverySecondWord x = Due.with("r0a1A;r1a2B;r2a3C;r3a4D;r4a5E;r5a6F;e6;", "p1a;p1a;");
    for (int mark = 0; mark < 6; mark++) {
      x.values(0, mark, 9);
      x.values(1, mark, -9);
    }
    due.is("the most", x.value(0), 54);
    due.is("the least of an end that is not STUCK", x.value(1), -54);
    x.values(0, 5, -9);
    due.is("five and one", x.value(0), 36);
    x.values(0, 5, 0);
    due.is("five", x.value(0), 45);
  }

  static void promise21_noMarks() {
    EverySecondWord x = Due.with("r0a1A;r1a2A;e2;", "p1a;v0A+9;");
    due.is("A came twice", x.value(0), 0);
    x.say(0);
    due.is("A came once, and will again", x.value(0), 0);
  }

  /** "STUCK: less LOSS alone". */
  static void promise21_stuckLessLossAlone() {
    EverySecondWord x = Due.with("r0a1A;", "p1a;p1;v0A+9;v1A-9;");
    due.row("value", x::value, -5, -5);
    x.set(1, 0);
    due.row("value with no LOSS", x::value, 0, 0);
    x.set(1, 99);
    due.row("value with the most LOSS", x::value, -99, -99);
    x.say(0);
    due.row("value when it is STUCK", x::value, -99, -99);
  }

  static void promise21_whenStopped() {
    EverySecondWord x = Due.with("r0a0A;e0;", "p1a;p1a;v0A+3;v1A-4;");
    x.stop();
    due.row("value", x::value, 0, 0);
    x.back();
    x.say(0);
    x.stop();
    due.row("value", x::value, 3, -4);
  }
}
