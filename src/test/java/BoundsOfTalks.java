/** Promises 13 to 17: a test for each sentence of the document that names a boundary case. */
public final class BoundsOfTalks {
  private static final Due due = new Due();
  private static final int LEAST = Integer.MIN_VALUE;
  private static final int MOST = Integer.MAX_VALUE;
  /** Around all eight states by a, with a mark at each of the first six words; 0 and 7 are ENDS. */
  private static final String[] AROUND = {
    "r0a1A;r1a2B;r2a3C;r3a4D;r4a5E;r5a6F;r6a7;r7a0;e0;e7;l8;", "p0a;"
  };
  /** One word again and again: its mark comes and goes. */
  private static final String[] AGAIN = {"r0a0A;e0;l8;", "p0a;"};

  public static void main(String[] args) throws IllegalAccessException {
    ByName.run(BoundsOfTalks.class, due);
  }

  private static void standsAs(EverySecondWord x, int... talk) {
    due.row("talk", x::talk, talk);
  }

  // ---- 13: "The one whose turn it is says a WORD: the STATE. -1; -3 it may not be said (..)" ----

  static void promise13_words0To7() {
    EverySecondWord x = Due.with("r0a7;r7h0;r0b3;r3g4;", "p0abgh;");
    due.is("say(0)", x.say(0), 7);
    due.is("say(7)", x.say(7), 0);
    due.is("say(1)", x.say(1), 3);
    due.is("say(6)", x.say(6), 4);
  }

  static void promise13_noSuchWord() {
    EverySecondWord x = Due.with("r0a0;r0h0;", "p0abcdefgh;");
    for (int word : new int[] {-1, 8, 9, 32, 64, -32, LEAST, MOST}) {
      due.refused("say", x, x::say, word, -1);
    }
    standsAs(x, 0, 0, 0, 0, 0, 129, 0);
  }

  static void promise13_noSuchWordIsToldFirst() {
    EverySecondWord nobody = new EverySecondWord();
    due.refused("say", nobody, nobody::say, 8, -1);
    EverySecondWord over = Due.with(AGAIN);
    over.stop();
    due.refused("say", over, over::say, -1, -1);
    due.refused("say", over, over::say, 8, -1);
  }

  /** 8 stands for a stop elsewhere: it is no word, in an END either. */
  static void promise13_8IsNoWordInAnEndEither() {
    EverySecondWord x = Due.with(AGAIN);
    due.is("talk(6)", x.talk(6), 1);
    due.refused("say", x, x::say, 8, -1);
    due.is("OVER", x.talk(3), 0);
  }

  static void promise13_nobodyMinus3() {
    EverySecondWord x = Due.with("r0a0;r0h0;e0;");
    due.refused("say", x, x::say, 0, -3);
    due.refused("say", x, x::say, 7, -3);
  }

  static void promise13_overMinus3() {
    EverySecondWord x = Due.with(AGAIN);
    x.stop();
    due.refused("say", x, x::say, 0, -3);
    EverySecondWord byItself = Due.with("r0a1;e1;", "p0a;");
    byItself.say(0);
    due.is("OVER", byItself.talk(3), 1);
    due.refused("say", byItself, byItself::say, 0, -3);
  }

  static void promise13_stuckMinus3() {
    EverySecondWord x = Due.with("r0a1;", "p0a;");
    x.say(0);
    due.is("STUCK", x.talk(3), 2);
    due.refused("say", x, x::say, 0, -3);
  }

  static void promise13_asManyWordsAsLengthAndNoMore() {
    for (int length = 1; length <= 8; length++) {
      EverySecondWord x = Due.with("r0a0A;r0b0;", "p0ab;p0b;p0ab;");
      x.set(0, length);
      for (int i = 0; i < length; i++) {
        due.is("word " + i + " of " + length, x.say(1), 0);
      }
      due.refused("say", x, x::say, 1, -3);
      due.refused("say", x, x::say, 0, -3);
      due.is("words said", x.talk(2), length);
    }
  }

  static void promise13_aWordThatItHasNot() {
    EverySecondWord x = Due.with("r0a0;r0b0;", "p0a;p0b;");
    due.refused("say", x, x::say, 1, -3);
    x.say(0);
    due.refused("say", x, x::say, 0, -3);
    due.is("say(1)", x.say(1), 0);
  }

  static void promise13_noRuleFromTheStateByTheWord() {
    EverySecondWord x = Due.with("r0a1;r1b1;", "p0abcdefgh;");
    due.refused("say", x, x::say, 1, -3);
    due.is("say(0)", x.say(0), 1);
    due.refused("say", x, x::say, 0, -3);
    due.refused("say", x, x::say, 7, -3);
  }

  // ---- 14: "It stops the TALK: the MEANING. -3 it may not." ----

  static void promise14_theMeaningIsNoneOrAllMarks() {
    EverySecondWord x = Due.with(AROUND);
    due.is("stop() without a word", x.stop(), 0);
    x.back();
    Due.say(x, "aaaaaaa");
    due.is("stop() with all marks", x.stop(), 63);
  }

  static void promise14_inNoEnd() {
    EverySecondWord x = Due.with(AROUND);
    for (int i = 1; i <= 6; i++) {
      x.say(0);
      due.refused("stop in state " + i, x, n -> x.stop(), 0, -3);
    }
    x.say(0);
    due.is("stop() in state 7", x.stop(), 63);
  }

  static void promise14_onceAlone() {
    EverySecondWord x = Due.with(AGAIN);
    due.is("stop()", x.stop(), 0);
    due.refused("stop", x, n -> x.stop(), 0, -3);
    due.is("back()", x.back(), 0);
    due.is("stop()", x.stop(), 0);
  }

  /** "in an END it is OVER by itself then". */
  static void promise14_overByItself() {
    EverySecondWord noWord = Due.with("e0;", "p0a;");
    due.refused("stop", noWord, n -> noWord.stop(), 0, -3);
    EverySecondWord lengthSaid = Due.with(AGAIN);
    Due.say(lengthSaid, "aaaaaaa");
    due.is("words said", lengthSaid.talk(2), 7);
    due.is("may be stopped", lengthSaid.talk(6), 1);
    lengthSaid.say(0);
    due.refused("stop", lengthSaid, n -> lengthSaid.stop(), 0, -3);
  }

  static void promise14_stuckOrNobody() {
    EverySecondWord stuck = Due.with("e1;", "p0a;");
    due.refused("stop", stuck, n -> stuck.stop(), 0, -3);
    EverySecondWord nobody = Due.with("r0a0;e0;");
    due.refused("stop", nobody, n -> nobody.stop(), 0, -3);
  }

  // ---- 15: "The latest word (or stop) is taken back: how many words were said. -3 there is none." ----

  static void promise15_thereIsNone() {
    EverySecondWord x = Due.with(AGAIN);
    due.refused("back", x, n -> x.back(), 0, -3);
    x.say(0);
    due.is("back()", x.back(), 0);
    due.refused("back", x, n -> x.back(), 0, -3);
    x.say(0);
    x.anew();
    due.refused("back", x, n -> x.back(), 0, -3);
    EverySecondWord nobody = new EverySecondWord();
    due.refused("back", nobody, n -> nobody.back(), 0, -3);
  }

  static void promise15_aStopIsTakenBackAlone() {
    EverySecondWord x = Due.with(AGAIN);
    x.stop();
    due.is("a stop without a word", x.back(), 0);
    standsAs(x, 0, 0, 0, 0, 0, 1, 1);
    due.refused("back", x, n -> x.back(), 0, -3);
    Due.say(x, "aaa");
    x.stop();
    due.is("a stop behind three words", x.back(), 3);
    standsAs(x, 0, 1, 3, 0, 0, 1, 1);
    due.is("a word", x.back(), 2);
    standsAs(x, 0, 0, 2, 0, 0, 1, 1);
  }

  static void promise15_eightWordsOneByOne() {
    EverySecondWord x = Due.with(AROUND);
    Due.say(x, "aaaaaaaa");
    standsAs(x, 0, 63, 8, 1, -9, 0, 0);
    due.is("back()", x.back(), 7);
    standsAs(x, 7, 63, 7, 0, 0, 1, 1);
    for (int i = 6; i >= 1; i--) {
      due.is("back()", x.back(), i);
      standsAs(x, i, (1 << i) - 1, i, 0, 0, 1, 0);
    }
    due.is("back()", x.back(), 0);
    standsAs(x, 0, 0, 0, 0, 0, 1, 1);
    due.refused("back", x, n -> x.back(), 0, -3);
  }

  static void promise15_aWordThatLeftTheTalkStuck() {
    EverySecondWord x = Due.with("r0a1;", "p0a;");
    x.say(0);
    due.is("STUCK", x.talk(3), 2);
    due.is("back()", x.back(), 0);
    due.is("neither", x.talk(3), 0);
  }

  static void promise15_otherWordsMayBeSaidThen() {
    EverySecondWord x = Due.with("r0a1A;r0b2B;r1a3C;r2a3D;e3;", "p0ab;");
    Due.say(x, "aa");
    x.back();
    x.back();
    due.is("another word", Due.say(x, "b"), 2);
    due.is("and on", Due.say(x, "a"), 3);
    due.is("meaning", x.talk(1), 2 + 8);
    due.is("back()", x.back(), 1);
    due.is("meaning", x.talk(1), 2);
  }

  // ---- 16: "The TALK begins anew: how many words were said." ----

  static void promise16_nothingWasSaid() {
    due.is("nobody", new EverySecondWord().anew(), 0);
    EverySecondWord x = Due.with(AGAIN);
    due.is("nothing", x.anew(), 0);
    due.is("nothing again", x.anew(), 0);
    due.is("words said", x.talk(2), 0);
  }

  static void promise16_eightWords() {
    EverySecondWord x = Due.with(AROUND);
    Due.say(x, "aaaaaaaa");
    due.is("anew()", x.anew(), 8);
    standsAs(x, 0, 0, 0, 0, 0, 1, 1);
    due.is("anew()", x.anew(), 0);
    Due.say(x, "a");
    due.is("anew()", x.anew(), 1);
  }

  static void promise16_aStopIsNoMore() {
    EverySecondWord x = Due.with(AGAIN);
    x.stop();
    due.is("without a word", x.anew(), 0);
    standsAs(x, 0, 0, 0, 0, 0, 1, 1);
    due.refused("back", x, n -> x.back(), 0, -3);
    x.say(0);
    x.stop();
    due.is("with a word", x.anew(), 1);
    standsAs(x, 0, 0, 0, 0, 0, 1, 1);
  }

  static void promise16_allElseStays() {
    EverySecondWord x = Due.with("r0a1A;r1b0;e1;l3;", "p3a;p1b;v1A-2;");
    x.order(1);
    x.set(1, 44);
    x.order(10);
    Due.feed(x, "e0;");
    x.row(0);
    String before = Portrait.of(x);
    Due.say(x, "ab");
    x.anew();
    due.same("all there is", Portrait.of(x), before);
  }

  // ---- 17: "0 the STATE, 1 the MEANING, 2 how many words .., 3 .., 4 .., 5 .., 6 ... -2." ----

  static void promise17_noSuchWhat() {
    EverySecondWord x = Due.with(AGAIN);
    for (int what : new int[] {-1, 7, 8, LEAST, MOST}) {
      due.refused("talk", x, x::talk, what, -2);
    }
    EverySecondWord nobody = new EverySecondWord();
    due.refused("talk", nobody, nobody::talk, 7, -2);
  }

  static void promise17_eachWordAroundTheStates() {
    EverySecondWord x = Due.with(AROUND);
    for (int i = 0; i < 8; i++) {
      standsAs(x, i, (1 << Math.min(i, 6)) - 1, i, 0, 0, 1, i == 0 || i == 7 ? 1 : 0);
      x.say(0);
    }
    standsAs(x, 0, 63, 8, 1, -9, 0, 0);
  }

  /** "its MARK (if there is one) is in the MEANING: if it was in it, it is not then". */
  static void promise17_aMarkThatWasInItIsNotThen() {
    EverySecondWord x = Due.with("r0a0A;r0b0F;r0c0;e0;l8;", "p0abc;");
    String said = "abcaabbb";
    int[] meanings = {0, 1, 33, 33, 32, 33, 1, 33, 1};
    for (int i = 0; i < 8; i++) {
      due.is("meaning behind " + said.substring(0, i), x.talk(1), meanings[i]);
      Due.say(x, said.substring(i, i + 1));
    }
    due.is("meaning behind all", x.talk(1), meanings[8]);
  }

  /** "the i-th word (from 0) is said by the one at the place i modulo how many there are". */
  static void promise17_whoseTurnAroundThePeople() {
    int[] orders = {0, 1, 102, 2031};
    int[][] turns = {
      {0, 0, 0, 0, 0, 0, 0, 0}, {1, 0, 1, 0, 1, 0, 1, 0}, {2, 0, 1, 2, 0, 1, 2, 0}, {1, 3, 0, 2, 1, 3, 0, 2}
    };
    for (int people = 1; people <= 4; people++) {
      EverySecondWord x = Due.with("r0a0;l8;", "p0a;".repeat(people));
      x.order(orders[people - 1]);
      for (int i = 0; i < 8; i++) {
        due.is("turn " + i + " of " + people, x.talk(4), turns[people - 1][i]);
        x.say(0);
      }
      due.is("turn 8 of " + people, x.talk(4), -9);
    }
  }

  static void promise17_allWordsMayBeSaidOrNone() {
    EverySecondWord x = Due.with("r0a0;r0b0;r0c0;r0d0;r0e0;r0f0;r0g0;r0h1;", "p0abcdefgh;");
    due.is("MAY", x.talk(5), 255);
    Due.say(x, "h");
    due.is("MAY", x.talk(5), 0);
    x.back();
    for (int word = 0; word < 7; word++) {
      x.word(0, word, false);
    }
    due.is("MAY", x.talk(5), 128);
    x.word(0, 7, false);
    due.is("MAY", x.talk(5), 0);
    due.is("STUCK", x.talk(3), 2);
    due.is("nobody's turn", x.talk(4), -9);
  }

  static void promise17_wordsOfTheOneWhoseTurnItIs() {
    EverySecondWord x = Due.with("r0a0;r0b0;r0c0;", "p0ab;p0bch;p0;");
    due.is("MAY", x.talk(5), 3);
    Due.say(x, "a");
    due.is("MAY", x.talk(5), 6);
    Due.say(x, "b");
    due.is("MAY", x.talk(5), 0);
    due.is("STUCK", x.talk(3), 2);
  }

  /** "It is STUCK, if it is not OVER and no word may be said .. and the STATE is no END". */
  static void promise17_noWordMayBeSaid() {
    EverySecondWord x = Due.with("r0a1;r0b2;e2;", "p0ab;");
    Due.say(x, "a");
    standsAs(x, 1, 0, 1, 2, -9, 0, 0);
    x.back();
    Due.say(x, "b");
    standsAs(x, 2, 0, 1, 1, -9, 0, 0);
  }

  /** "or LENGTH words were said": one word ahead of it is neither. */
  static void promise17_lengthWordsWereSaid() {
    for (int length = 1; length <= 8; length++) {
      EverySecondWord stuck = Due.with("r0a0;", "p0a;");
      EverySecondWord over = Due.with("r0a0;e0;", "p0a;");
      stuck.set(0, length);
      over.set(0, length);
      for (int i = 0; i < length; i++) {
        standsAs(stuck, 0, 0, i, 0, 0, 1, 0);
        standsAs(over, 0, 0, i, 0, 0, 1, 1);
        stuck.say(0);
        over.say(0);
      }
      standsAs(stuck, 0, 0, length, 2, -9, 0, 0);
      standsAs(over, 0, 0, length, 1, -9, 0, 0);
    }
  }

  /** More than LENGTH words were said, where LENGTH became less behind them. */
  static void promise17_moreThanLengthWordsWereSaid() {
    EverySecondWord x = Due.with("r0a1;r1a0;e1;l8;", "p0a;");
    Due.say(x, "aaaaaaaa");
    x.set(0, 1);
    standsAs(x, 0, 0, 8, 2, -9, 0, 0);
    x.back();
    standsAs(x, 1, 0, 7, 1, -9, 0, 0);
    x.anew();
    standsAs(x, 0, 0, 0, 0, 0, 1, 0);
  }

  static void promise17_stopped() {
    EverySecondWord x = Due.with("r0a0A;e0;", "p0a;p0a;");
    x.stop();
    standsAs(x, 0, 0, 0, 1, -9, 0, 0);
    x.back();
    Due.say(x, "a");
    standsAs(x, 0, 1, 1, 0, 1, 1, 1);
    x.stop();
    standsAs(x, 0, 1, 1, 1, -9, 0, 0);
  }

  /** What was stopped stays OVER, and what was STUCK is no more, by what changes behind. */
  static void promise17_whatChangesBehind() {
    EverySecondWord x = Due.with("r0a1;r1a1;e1;", "p0a;");
    Due.say(x, "a");
    x.stop();
    x.word(0, 0, false);
    due.is("OVER", x.talk(3), 1);
    x.word(0, 0, true);
    due.is("OVER", x.talk(3), 1);
    x.back();
    x.word(0, 0, false);
    due.is("OVER by itself", x.talk(3), 1);
    x.word(0, 0, true);
    due.is("neither", x.talk(3), 0);
  }

  static void promise17_nobody() {
    standsAs(Due.with("r0a0A;"), 0, 0, 0, 2, -9, 0, 0);
    standsAs(Due.with("r0a0A;e0;"), 0, 0, 0, 1, -9, 0, 0);
  }
}
