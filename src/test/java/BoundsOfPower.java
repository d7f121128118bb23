/** Promises 22 to 28 and 36: a test for each sentence of the document that names a boundary case. */
public final class BoundsOfPower {
  private static final Due due = new Due();
  private static final int LEAST = Integer.MIN_VALUE;
  private static final int MOST = Integer.MAX_VALUE;
  /** Around all eight states by a: the last word alone has a mark, and 0 alone is an END. */
  private static final String[] AROUND = {
    "r0a1;r1a2;r2a3;r3a4;r4a5;r5a6;r6a7;r7a0F;e0;l8;", "p0a;p0;"
  };
  /** Six words to the end, each with a mark of its own. */
  private static final String[] SIX_MARKS = {"r0a1A;r1a2B;r2a3C;r3a4D;r4a5E;r5a6F;e6;", "p0a;p0a;"};
  /** One word again and again by two in turn, each of whom may stop. */
  private static final String[] AGAIN = {"r0a0A;e0;", "p0a;p0a;"};
  /** The first chooses: with A, without it, or STUCK with it. */
  private static final String[] CHOICE = {"r0a1A;r0b1;r0c2A;e1;", "p0abc;p0abc;"};

  public static void main(String[] args) throws IllegalAccessException {
    ByName.run(BoundsOfPower.class, due);
  }

  // ---- 22: FORCES "whether one can, whatever all others say or stop, have a MARK in the MEANING at the end
  // (not STUCK): 1, 0. -1 either." ----

  static void promise22_marks0To5() {
    EverySecondWord x = Due.with("r0a1A;r1a2F;e2;", "p0a;");
    due.row("forces(0, ..)", mark -> x.forces(0, mark), 1, 0, 0, 0, 0, 1);
    for (int mark : new int[] {-1, 6, 31, 32, LEAST, MOST}) {
      due.refused("forces by 0 of", x, i -> x.forces(0, i), mark, -1);
    }
  }

  static void promise22_noSuchPerson() {
    EverySecondWord x = Due.with(SIX_MARKS);
    due.is("the last", x.forces(1, 5), 1);
    for (int person : new int[] {-1, 2, 4, LEAST, MOST}) {
      due.refused("forces of A by", x, i -> x.forces(i, 0), person, -1);
    }
    due.refused("forces of no mark by", x, i -> x.forces(i, 6), 2, -1);
    EverySecondWord nobody = Due.with("r0a0A;e0;");
    due.refused("forces of A by", nobody, i -> nobody.forces(i, 0), 0, -1);
  }

  static void promise22_notStuck() {
    EverySecondWord x = Due.with(CHOICE);
    due.is("A by a", x.forces(0, 0), 1);
    due.is("the other one can not", x.forces(1, 0), 0);
    x.word(0, 0, false);
    due.is("A by c is STUCK", x.forces(0, 0), 0);
    Due.say(x, "c");
    due.is("STUCK with A", x.forces(0, 0), 0);
    due.is("STUCK with A", x.forces(1, 0), 0);
  }

  static void promise22_whenOver() {
    EverySecondWord x = Due.with(AGAIN);
    x.say(0);
    x.stop();
    due.row("forces(.., 0), stopped with A", one -> x.forces(one, 0), 1, 1);
    due.row("forces(.., 1), stopped without B", one -> x.forces(one, 1), 0, 0);
    x.anew();
    x.stop();
    due.row("forces(.., 0), stopped without A", one -> x.forces(one, 0), 0, 0);
    EverySecondWord byItself = Due.with("r0b1A;e1;", "p0b;p0b;");
    byItself.say(1);
    due.row("forces(.., 0), OVER with A", one -> byItself.forces(one, 0), 1, 1);
    due.row("forces(.., 1), OVER without B", one -> byItself.forces(one, 1), 0, 0);
  }

  /** "whatever all others say or stop". */
  static void promise22_whateverOthersSayOrStop() {
    EverySecondWord stops = Due.with("r0a1;r1a2A;e2;", "p0a;p0a;p0a;");
    due.row("nobody can do else", one -> stops.forces(one, 0), 1, 1, 1);
    Due.tongue(stops, "e1;");
    due.row("the second may stop", one -> stops.forces(one, 0), 0, 1, 0);
    EverySecondWord says = Due.with("r0a1;r1a2A;r1h2;e2;", "p0a;p0ah;p0a;");
    due.row("the second may say h", one -> says.forces(one, 0), 0, 1, 0);
    says.word(1, 7, false);
    due.row("it has no h", one -> says.forces(one, 0), 1, 1, 1);
  }

  /** "LENGTH words were said": the word behind LENGTH forces nothing. */
  static void promise22_theEighthWord() {
    EverySecondWord x = Due.with("r0a1;r1a2;r2a3;r3a4;r4a5;r5a6;r6a7;r7a0F;e0;l8;", "p0a;");
    due.is("F", x.forces(0, 5), 1);
    x.set(0, 7);
    due.is("F at LENGTH 7", x.forces(0, 5), 0);
  }

  static void promise22_fromNow() {
    EverySecondWord x = Due.with("r0a0A;r0b0;e0;l2;", "p0a;p0b;");
    due.is("it says A", x.forces(0, 0), 1);
    Due.say(x, "a");
    due.is("A is in it", x.forces(0, 0), 1);
    due.is("the other can not get rid of it", x.forces(1, 0), 1);
    x.back();
    Due.tongue(x, "p0a;");
    due.is("LENGTH 2: the third says nothing", x.forces(2, 0), 0);
    Due.say(x, "a");
    x.set(0, 1);
    due.is("OVER at LENGTH", x.forces(2, 0), 1);
  }

  static void promise22_noRules() {
    EverySecondWord stuck = Due.with("p0a;");
    due.row("STUCK at once: forces(0, ..)", mark -> stuck.forces(0, mark), 0, 0, 0, 0, 0, 0);
    EverySecondWord over = Due.with("e0;", "p0a;");
    due.row("OVER at once: forces(0, ..)", mark -> over.forces(0, mark), 0, 0, 0, 0, 0, 0);
  }

  /** From state 7 as from any other, by one and by the other, asked in turn. */
  static void promise22_throughTheLastState() {
    EverySecondWord x = Due.with("r0a7;r7a1A;e1;", "p0a;p0a;");
    due.row("forces(.., 0)", one -> x.forces(one, 0), 1, 1);
    x.word(1, 1, true);
    Due.tongue(x, "r7b1;");
    due.row("the other may say b: forces(.., 0)", one -> x.forces(one, 0), 0, 1);
    due.row("and again: forces(.., 0)", one -> x.forces(one, 0), 0, 1);
    x.word(1, 0, false);
    due.row("it has no a: forces(.., 0)", one -> x.forces(one, 0), 0, 0);
    due.row("it has no a: keeps(.., 0)", one -> x.keeps(one, 0), 1, 1);
    x.word(1, 1, false);
    due.row("it has neither: sticks", x::sticks, 1, 1);
    due.row("it has neither: forces(.., 0)", one -> x.forces(one, 0), 0, 0);
  }

  // ---- 23: KEEPS FROM "whether it can, whatever the others do, have the TALK end STUCK or without that MARK". ----

  static void promise23_marks0To5() {
    EverySecondWord x = Due.with("r0a1A;r1a2F;e2;", "p0a;");
    due.row("keeps(0, ..)", mark -> x.keeps(0, mark), 0, 1, 1, 1, 1, 0);
    for (int mark : new int[] {-1, 6, 31, 32, LEAST, MOST}) {
      due.refused("keeps by 0 of", x, i -> x.keeps(0, i), mark, -1);
    }
  }

  static void promise23_noSuchPerson() {
    EverySecondWord x = Due.with(SIX_MARKS);
    due.is("the last", x.keeps(1, 5), 0);
    for (int person : new int[] {-1, 2, 4, LEAST, MOST}) {
      due.refused("keeps of A by", x, i -> x.keeps(i, 0), person, -1);
    }
    due.refused("keeps of no mark by", x, i -> x.keeps(i, -1), -1, -1);
    EverySecondWord nobody = Due.with("r0a0A;e0;");
    due.refused("keeps of A by", nobody, i -> nobody.keeps(i, 0), 0, -1);
  }

  static void promise23_stuckOrWithoutIt() {
    EverySecondWord x = Due.with(CHOICE);
    due.is("by b or c", x.keeps(0, 0), 1);
    due.is("the other one can not", x.keeps(1, 0), 0);
    x.word(0, 1, false);
    due.is("by c, STUCK with A", x.keeps(0, 0), 1);
    x.word(0, 2, false);
    due.is("a alone", x.keeps(0, 0), 0);
    x.word(0, 2, true);
    Due.say(x, "c");
    due.row("STUCK with A: keeps(.., 0)", one -> x.keeps(one, 0), 1, 1);
  }

  static void promise23_noRules() {
    EverySecondWord stuck = Due.with("p0a;");
    due.row("STUCK at once: keeps(0, ..)", mark -> stuck.keeps(0, mark), 1, 1, 1, 1, 1, 1);
    EverySecondWord over = Due.with("e0;", "p0a;");
    due.row("OVER at once: keeps(0, ..)", mark -> over.keeps(0, mark), 1, 1, 1, 1, 1, 1);
  }

  static void promise23_whenOver() {
    EverySecondWord x = Due.with(AGAIN);
    x.say(0);
    x.stop();
    due.row("keeps(.., 0), stopped with A", one -> x.keeps(one, 0), 0, 0);
    due.row("keeps(.., 1), stopped without B", one -> x.keeps(one, 1), 1, 1);
    x.anew();
    x.stop();
    due.row("keeps(.., 0), stopped without A", one -> x.keeps(one, 0), 1, 1);
    EverySecondWord byItself = Due.with("r0b1A;e1;", "p0b;p0b;");
    byItself.say(1);
    due.row("keeps(.., 0), OVER with A", one -> byItself.keeps(one, 0), 0, 0);
  }

  static void promise23_whateverTheOthersDo() {
    EverySecondWord x = Due.with("r0a1A;r1a2A;e2;", "p0a;p0a;p0a;");
    due.row("nobody can do else", one -> x.keeps(one, 0), 1, 1, 1);
    Due.tongue(x, "e1;");
    due.row("the second may stop", one -> x.keeps(one, 0), 0, 1, 0);
    due.row("it may force it, too", one -> x.forces(one, 0), 0, 1, 0);
  }

  static void promise23_theEighthWord() {
    EverySecondWord x = Due.with(AROUND);
    x.word(1, 0, true);
    due.row("the first may stop at once: keeps(.., 5)", one -> x.keeps(one, 5), 1, 0);
    Due.say(x, "a");
    due.row("all words are to be said: keeps(.., 5)", one -> x.keeps(one, 5), 0, 0);
    x.set(0, 7);
    due.row("STUCK at LENGTH 7: keeps(.., 5)", one -> x.keeps(one, 5), 1, 1);
  }

  // ---- 24: STICKS "whether it can have it end STUCK. -1." ----

  static void promise24_noSuchPerson() {
    EverySecondWord x = Due.with(CHOICE);
    due.is("the last", x.sticks(1), 0);
    for (int person : new int[] {-1, 2, 4, LEAST, MOST}) {
      due.refused("sticks", x, x::sticks, person, -1);
    }
    EverySecondWord nobody = new EverySecondWord();
    due.refused("sticks", nobody, nobody::sticks, 0, -1);
  }

  static void promise24_whenStuckOrOver() {
    EverySecondWord stuck = Due.with("p0a;p0a;");
    due.row("STUCK at once", stuck::sticks, 1, 1);
    EverySecondWord over = Due.with("e0;", "p0a;p0a;");
    due.row("OVER at once", over::sticks, 0, 0);
    EverySecondWord stopped = Due.with("r0a1;e0;", "p0a;p0a;");
    due.row("by a", stopped::sticks, 1, 0);
    stopped.stop();
    due.row("stopped", stopped::sticks, 0, 0);
    EverySecondWord c = Due.with(CHOICE);
    due.row("by c", c::sticks, 1, 0);
    Due.say(c, "c");
    due.row("STUCK", c::sticks, 1, 1);
    c.back();
    Due.say(c, "b");
    due.row("OVER", c::sticks, 0, 0);
  }

  /** "LENGTH words were said, and the STATE is no END". */
  static void promise24_atLength() {
    EverySecondWord x = Due.with(AROUND);
    x.word(1, 0, true);
    due.row("eight words end in an END", x::sticks, 0, 0);
    x.set(0, 7);
    due.row("seven do not: the first need not stop", x::sticks, 1, 0);
    Due.say(x, "a");
    due.row("nobody can stop any more", x::sticks, 1, 1);
    x.set(0, 8);
    due.row("all say the eighth", x::sticks, 0, 0);
    x.set(0, 1);
    due.row("LENGTH 1", x::sticks, 1, 1);
  }

  // ---- 25: HOLDS "the most words in all that it can be sure of, whatever the others do". ----

  static void promise25_noSuchPerson() {
    EverySecondWord x = Due.with(AGAIN);
    due.is("the last", x.holds(1), 0);
    for (int person : new int[] {-1, 2, 4, LEAST, MOST}) {
      due.refused("holds", x, x::holds, person, -1);
    }
    EverySecondWord nobody = new EverySecondWord();
    due.refused("holds", nobody, nobody::holds, 0, -1);
  }

  static void promise25_noWordAtAll() {
    due.row("STUCK at once", Due.with("p0a;p0a;")::holds, 0, 0);
    due.row("OVER at once", Due.with("e0;", "p0a;p0a;")::holds, 0, 0);
    due.row("the other may stop at once", Due.with(AGAIN)::holds, 1, 0);
  }

  static void promise25_asManyAsLength() {
    for (int length = 1; length <= 8; length++) {
      EverySecondWord x = Due.with("r0a0;", "p0a;p0a;");
      x.set(0, length);
      due.row("LENGTH " + length, x::holds, length, length);
      EverySecondWord alone = Due.with("r0a0;e0;", "p0a;");
      alone.set(0, length);
      due.is("alone, LENGTH " + length, alone.holds(0), length);
    }
  }

  static void promise25_moreThanLengthWordsWereSaid() {
    EverySecondWord x = Due.with("r0a0;l8;", "p0a;p0a;");
    Due.say(x, "aaaaaaaa");
    due.row("eight", x::holds, 8, 8);
    x.set(0, 1);
    due.row("eight of LENGTH 1", x::holds, 8, 8);
    x.back();
    due.row("seven of LENGTH 1", x::holds, 7, 7);
    x.set(0, 8);
    due.row("and one more", x::holds, 8, 8);
  }

  static void promise25_whenOverOrStuck() {
    EverySecondWord x = Due.with(AGAIN);
    Due.say(x, "aaa");
    due.row("the second may stop", x::holds, 3, 4);
    x.stop();
    due.row("stopped", x::holds, 3, 3);
    EverySecondWord c = Due.with(CHOICE);
    Due.say(c, "c");
    due.row("STUCK", c::holds, 1, 1);
    c.back();
    Due.say(c, "a");
    due.row("OVER", c::holds, 1, 1);
  }

  /** The others choose what is least, one itself what is most; words that lead no further end it too. */
  static void promise25_theLongWayAndTheShort() {
    EverySecondWord x = Due.with("r0a1;r0b2;r1a3;r2a2;r3a3;e3;l8;", "p0ab;p0a;");
    due.row("holds", x::holds, 8, 2);
    x.word(0, 1, false);
    due.row("by a alone", x::holds, 3, 2);
    EverySecondWord y = Due.with("r0a1;r1a2;r1b3;r3a3;l8;", "p0a;p0ab;");
    due.row("the second may stick at 2", y::holds, 2, 8);
  }

  static void promise25_throughTheLastState() {
    EverySecondWord x = Due.with("r0a7;r7a7;l8;", "p0a;p0a;");
    due.row("holds", x::holds, 8, 8);
    x.word(1, 0, false);
    due.row("the other has no word: holds", x::holds, 1, 1);
    Due.tongue(x, "r7b1;");
    x.word(1, 1, true);
    due.row("it has b alone: holds", x::holds, 2, 2);
    x.word(1, 0, true);
    due.row("it has a and b: holds", x::holds, 2, 8);
  }

  /** Of 24 RULES the last one holds as the first. */
  static void promise25_byTheLastOf24Rules() {
    EverySecondWord x = Due.with("r1a0;r1b0;r1c0;r1d0;r1e0;r1f0;r1g0;r1h0;", "r2a0;r2b0;r2c0;r2d0;r2e0;r2f0;r2g0;r2h0;",
        "r3a0;r3b0;r3c0;r3d0;r3e0;r3f0;r3g0;r0a4A;", "e4;p0a;v0A+3;");
    due.is("rules", x.count(0), 24);
    due.is("holds(0)", x.holds(0), 1);
    due.is("forces(0, 0)", x.forces(0, 0), 1);
    due.is("sure(0)", x.sure(0), 3);
    due.row("meanings", x::meanings, 1, -9);
    due.is("canStick()", x.canStick(), 0);
    due.is("value(0)", x.value(0), 3);
    due.is("does()", x.does(), 0);
    due.is("seeds(0, 1, 1)", x.seeds(0, 1, 1), 3);
    due.is("row(0)", x.row(0), 1);
    due.is("judge()", x.judge(), -9);
  }

  // ---- 26: SURE "the greatest WORTH of the end that one can be sure of". "Refused as told: -1." ----

  static void promise26_noSuchPerson() {
    EverySecondWord x = Due.with(AGAIN);
    due.is("the last", x.sure(1), 0);
    for (int person : new int[] {-1, 2, 4, LEAST, MOST}) {
      due.refusedWorth("sure", x, x::sure, person, -1);
    }
    EverySecondWord nobody = new EverySecondWord();
    due.refusedWorth("sure", nobody, nobody::sure, 0, -1);
  }

  /** Each worth that an end can have, from -54 to 54. */
  static void promise26_eachWorthFromMinus54To54() {
    for (int worth = -54; worth <= 54; worth++) {
      EverySecondWord x = Due.with(SIX_MARKS);
      for (int mark = 0, left = worth; mark < 6; mark++) {
        int v = Math.max(-9, Math.min(9, left));
        x.values(0, mark, v);
        left -= v;
      }
      due.row("sure, all marks together worth " + worth + ",", x::sure, worth, 0);
    }
  }

  /** "STUCK: less LOSS alone": from 0 to 99. */
  static void promise26_eachLossFrom0To99() {
    EverySecondWord x = Due.with("r0a1A;", "p0a;p0a;v0A+9;v1A-9;");
    for (int loss = 0; loss <= 99; loss++) {
      x.set(1, loss);
      due.row("sure, LOSS " + loss + ",", x::sure, -loss, -loss);
    }
  }

  static void promise26_noRules() {
    due.row("STUCK at once: sure", Due.with("p0a;p0a;v0A+9;")::sure, -5, -5);
    due.row("OVER at once: sure", Due.with("e0;", "p0a;p0a;v0A+9;")::sure, 0, 0);
  }

  static void promise26_stuckOrAnEnd() {
    EverySecondWord x = Due.with("r0a1A;r0b2;e1;", "p0ab;p0;v0A-5;v1A-5;");
    due.row("as bad", x::sure, -5, -5);
    x.set(1, 4);
    due.row("STUCK is less bad", x::sure, -4, -5);
    x.set(1, 6);
    due.row("STUCK is worse", x::sure, -5, -6);
  }

  static void promise26_whenOverOrStuck() {
    EverySecondWord x = Due.with("r0a0A;e0;", "p0a;p0a;v0A+3;v1A-4;");
    x.say(0);
    x.stop();
    due.row("stopped with A", x::sure, 3, -4);
    x.back();
    x.set(0, 1);
    due.row("OVER with A", x::sure, 3, -4);
    EverySecondWord stuck = Due.with("r0a1A;", "p0a;p0a;v0A+3;v1A-4;");
    stuck.say(0);
    due.row("STUCK with A", stuck::sure, -5, -5);
  }

  /** Those whom one counts on may be of any KIND: it is sure of nothing that they could leave. */
  static void promise26_whateverTheOthersDo() {
    EverySecondWord x = Due.with("r0a1;r1a2A;r1b2B;r1c3;e2;", "p0a;p0abc;v0A+9;v0B+1;v1A+2;v1B+3;");
    due.row("the second may stick", x::sure, -5, 3);
    x.word(1, 2, false);
    due.row("it may not", x::sure, 1, 3);
    Due.tongue(x, "e1;");
    due.row("it may stop", x::sure, 0, 3);
  }

  // ---- 27: "ALL MEANINGS: how many (i -1), the i-th; -9 none such. -4; -3 nobody." ----

  static void promise27_belowMinus1Minus4() {
    EverySecondWord x = Due.with(AGAIN);
    due.is("how many", x.meanings(-1), 2);
    for (int i : new int[] {-2, -3, -9, LEAST}) {
      due.refused("meanings", x, x::meanings, i, -4);
    }
  }

  static void promise27_nobodyMinus3() {
    EverySecondWord x = Due.with("r0a0A;e0;");
    for (int i : new int[] {-1, 0, 1, MOST}) {
      due.refused("meanings", x, x::meanings, i, -3);
    }
  }

  static void promise27_belowIsToldAheadOfNobody() {
    EverySecondWord x = new EverySecondWord();
    due.refused("meanings", x, x::meanings, -2, -4);
    due.refused("meanings", x, x::meanings, LEAST, -4);
  }

  static void promise27_noneSuchMinus9() {
    EverySecondWord x = Due.with(AGAIN);
    due.row("meanings", x::meanings, 0, 1, -9, -9);
    due.is("meanings(MOST)", x.meanings(MOST), -9);
    due.is("meanings(64)", x.meanings(64), -9);
    due.is("refusals", x.count(11) + x.count(12) + x.count(13) + x.count(14) + x.count(16), 0);
  }

  static void promise27_allThatThereAre() {
    EverySecondWord x = Due.with("r0a0A;r0b0B;r0c0C;r0d0D;r0e0E;r0f0F;e0;", "p0abcdef;");
    due.is("how many", x.meanings(-1), 64);
    for (int i = 0; i < 64; i++) {
      due.is("meanings(" + i + ")", x.meanings(i), i);
    }
    due.is("meanings(64)", x.meanings(64), -9);
    x.set(0, 5);
    due.is("all six marks need six words", x.meanings(-1), 63);
    due.is("the last", x.meanings(62), 62);
    due.is("none such", x.meanings(63), -9);
    x.set(0, 1);
    due.row("one word", x::meanings, 0, 1, 2, 4, 8, 16, 32, -9);
  }

  /** "(not STUCK)". */
  static void promise27_noneButStuck() {
    EverySecondWord x = Due.with("r0a1A;", "p0a;");
    due.is("how many", x.meanings(-1), 0);
    due.is("the first", x.meanings(0), -9);
    x.say(0);
    due.is("how many when STUCK", x.meanings(-1), 0);
    due.is("the first when STUCK", x.meanings(0), -9);
  }

  static void promise27_whenOver() {
    EverySecondWord x = Due.with(AGAIN);
    x.say(0);
    x.stop();
    due.is("how many", x.meanings(-1), 1);
    due.row("stopped", x::meanings, 1, -9);
    EverySecondWord all = Due.with(SIX_MARKS);
    Due.say(all, "aaaaaa");
    due.is("how many", all.meanings(-1), 1);
    due.row("OVER with all marks", all::meanings, 63, -9);
    all.anew();
    due.row("from the beginning", all::meanings, 63, -9);
  }

  static void promise27_atTheLastWordOfLength() {
    EverySecondWord x = Due.with(AROUND);
    x.word(1, 0, true);
    due.row("eight words", x::meanings, 0, 32, -9);
    x.set(0, 7);
    due.row("LENGTH 7", x::meanings, 0, -9);
    Due.say(x, "a");
    due.row("LENGTH 7, behind a", x::meanings, -9);
  }

  /** "whatever all do": what they MAY do, each with its words in its turn. */
  static void promise27_wordsThatOneHasNot() {
    EverySecondWord x = Due.with("r0a0A;r0b0B;r0c0C;r0d0D;e0;l3;", "p0a;p0b;p0c;");
    due.row("a, b, c", x::meanings, 0, 1, 3, 7, -9);
    x.word(1, 1, false);
    due.row("a alone, the second has no word", x::meanings, 0, 1, -9);
    x.word(1, 3, true);
    due.row("a, d, c", x::meanings, 0, 1, 9, 13, -9);
  }

  /** A STATE that could be reached by another's turn is not reached by this one. */
  static void promise27_aStateAtAnothersTurn() {
    EverySecondWord x = Due.with("r0a7A;r7a1;r7b2C;e1;e2;", "p0ab;p0a;p0a;");
    due.row("meanings", x::meanings, 1, -9);
    due.row("and again", x::meanings, 1, -9);
    x.order(102);
    due.row("whose turn it then is has b", x::meanings, 1, 5, -9);
  }

  /** From now: what could be from the beginning is not looked at any more. */
  static void promise27_fromNow() {
    EverySecondWord x = Due.with("r0a0A;r0b1;r1b2B;r2c3;e0;e3;", "p0abc;");
    due.row("from the beginning", x::meanings, 0, 1, 2, 3, -9);
    due.is("it can stick", x.canStick(), 1);
    Due.say(x, "bb");
    due.row("behind b, b", x::meanings, 2, -9);
    due.is("it can not stick", x.canStick(), 0);
    x.set(0, 2);
    due.row("at LENGTH", x::meanings, -9);
    due.is("it is STUCK", x.canStick(), 1);
    x.anew();
    due.row("from the beginning, LENGTH 2", x::meanings, 0, 1, -9);
  }

  // ---- 28: "CAN STICK. -3 nobody." ----

  static void promise28_nobodyMinus3() {
    EverySecondWord x = Due.with("r0a1;");
    due.refused("canStick", x, n -> x.canStick(), 0, -3);
    EverySecondWord inAnEnd = Due.with("r0a1;e0;");
    due.refused("canStick", inAnEnd, n -> inAnEnd.canStick(), 0, -3);
  }

  static void promise28_whenOverOrStuck() {
    EverySecondWord x = Due.with("r0a1;e0;", "p0a;");
    due.is("by a", x.canStick(), 1);
    x.stop();
    due.is("stopped", x.canStick(), 0);
    x.back();
    x.say(0);
    due.is("STUCK", x.canStick(), 1);
    due.is("STUCK at once", Due.with("p0a;").canStick(), 1);
    due.is("OVER at once", Due.with("e0;", "p0a;").canStick(), 0);
  }

  static void promise28_atLength() {
    EverySecondWord x = Due.with(AROUND);
    x.word(1, 0, true);
    due.is("LENGTH 8", x.canStick(), 0);
    x.set(0, 7);
    due.is("LENGTH 7", x.canStick(), 1);
    x.set(0, 8);
    x.word(1, 0, false);
    due.is("the other one has no word", x.canStick(), 1);
    Due.say(x, "a");
    due.is("it is", x.canStick(), 1);
  }

  // ---- 36: LEAST "the fewest RULES (two at most) taken away by which one can no more FORCE it (from the
  // beginning): as bits of RULES, of several the least; 0 it can not anyhow; -9 more are needed." ----

  static void promise36_noSuchPersonOrMark() {
    EverySecondWord x = Due.with(SIX_MARKS);
    due.is("the last", x.least(1, 5), 1);
    for (int person : new int[] {-1, 2, 4, LEAST, MOST}) {
      due.refused("least of A for", x, i -> x.least(i, 0), person, -1);
    }
    for (int mark : new int[] {-1, 6, 32, LEAST, MOST}) {
      due.refused("least for 0 of", x, i -> x.least(0, i), mark, -1);
    }
    EverySecondWord nobody = Due.with("r0a0A;e0;");
    due.refused("least of A for", nobody, i -> nobody.least(i, 0), 0, -1);
  }

  static void promise36_itCanNotAnyhow() {
    due.is("no rules", Due.with("p0a;").least(0, 0), 0);
    due.is("OVER at once", Due.with("e0;", "p0a;").least(0, 0), 0);
    due.is("another mark", Due.with("r0a1B;e1;", "p0a;").least(0, 0), 0);
    due.is("STUCK with it", Due.with("r0a1A;", "p0a;").least(0, 0), 0);
    due.is("the other may stop", Due.with("r0a1;r1a2A;e1;e2;", "p0a;p0a;").least(0, 0), 0);
  }

  static void promise36_ofSeveralTheLeast() {
    due.is("the first of two", Due.with("r0a1A;r1a2;e2;", "p0a;").least(0, 0), 1);
    due.is("the first rule told", Due.with("r1a2;r0a1A;e2;", "p0a;").least(0, 0), 1);
    due.is("the second alone", Due.with("r0b2;r0a1A;e1;", "p0ab;").least(0, 0), 2);
    due.is("a pair", Due.with("r0c2;r0a1A;r0b1A;e1;", "p0abc;").least(0, 0), 6);
    due.is("one is fewer than two of lesser bits", Due.with("r0a1;r0b2;r1a3;r2a3;r3a4A;e4;", "p0ab;").least(0, 0), 16);
    due.is("of pairs the least", Due.with("r0a1;r0b2;r1a3A;r2a3A;e3;", "p0ab;").least(0, 0), 3);
  }

  static void promise36_threeAreNeeded() {
    due.is("two ways", Due.with("r0a1A;r0b1A;e1;", "p0abc;").least(0, 0), 3);
    due.is("three ways", Due.with("r0a1A;r0b1A;r0c1A;e1;", "p0abc;").least(0, 0), -9);
    due.is("three ways of which it has two", Due.with("r0a1A;r0b1A;r0c1A;e1;", "p0ac;").least(0, 0), 5);
  }

  /** Where 24 RULES are, the last ones have the highest bits. */
  static void promise36_theHighestBits() {
    String[] others = {
      "r1a0;r1b0;r1c0;r1d0;r1e0;r1f0;r1g0;r1h0;", "r2a0;r2b0;r2c0;r2d0;r2e0;r2f0;r2g0;r2h0;",
      "r4a0;r4b0;r4c0;r4d0;r4e0;r4f0;"
    };
    EverySecondWord x = Due.with(others);
    Due.tongue(x, "r0a3A;r0b3A;e3;p0ab;");
    due.is("rules", x.count(0), 24);
    due.is("the last two", x.least(0, 0), 3 << 22);
    x.word(0, 1, false);
    due.is("the last but one", x.least(0, 0), 1 << 22);
    x.word(0, 1, true);
    x.word(0, 0, false);
    due.is("the last", x.least(0, 0), 1 << 23);
  }

  /** "one can no more FORCE it (from the beginning)": the TALK as it is now is nothing to it. */
  static void promise36_fromTheBeginning() {
    EverySecondWord x = Due.with("r0a1A;r0b1;r1a2;e1;e2;", "p0ab;p0a;");
    Due.say(x, "b");
    due.is("forces now", x.forces(0, 0), 0);
    due.is("least", x.least(0, 0), 1);
    x.stop();
    due.is("least when stopped", x.least(0, 0), 1);
    due.is("all stays", x.talk(3), 1);
    due.is("rules", x.count(0), 3);
    x.anew();
    due.is("forces from the beginning", x.forces(0, 0), 1);
  }

  /** A RULE taken away may leave an END in which no word may be said, or one STUCK. */
  static void promise36_whatIsLeftIsOverOrStuck() {
    due.is("OVER with it", Due.with("r0a1A;r1a2A;e1;e2;", "p0a;p0;").least(0, 0), 1);
    due.is("the other's way out", Due.with("r0a1A;r1a2;r1b3;e2;e3;", "p0a;p0ab;").least(0, 0), 1);
    due.is("two ways, one STUCK without its rule", Due.with("r0a1;r0b2A;r1a2A;e2;", "p0ab;p0a;").least(0, 0), 3);
  }
}
