/** Promises 1 to 3: a test for each sentence of the document that names a boundary case. */
public final class BoundsOfTongues {
  private static final Due due = new Due();

  public static void main(String[] args) throws IllegalAccessException {
    ByName.run(BoundsOfTongues.class, due);
  }

  /** How a text is answered by a new object, of which nothing then is left, nor a refusal. */
  private static void answers(String text, int want) {
    EverySecondWord x = new EverySecondWord();
    due.is("tongue() of " + text, Due.tongue(x, text), want);
    due.is("letters behind " + text, x.count(5), 0);
    due.is("refusals by " + text, x.count(11) + x.count(12) + x.count(13) + x.count(14) + x.count(16), 0);
    if (want < 0) {
      due.is("what came of " + text, x.count(0) + x.count(1) + x.count(2) + x.count(3), 6);
    }
  }

  /** So many letters: as many whole statements as there is room for, each of three letters. */
  private static String times(int times, String text) {
    return text.repeat(times);
  }

  private static String rulesFrom(int state, int rules) {
    StringBuilder text = new StringBuilder();
    for (int word = 0; word < rules; word++) {
      text.append('r').append(state).append((char) ('a' + word)).append("0;");
    }
    return text.toString();
  }

  private static EverySecondWord withRules(int rules) {
    EverySecondWord x = new EverySecondWord();
    for (int left = rules, state = 0; left > 0; left -= 8, state++) {
      Due.tongue(x, rulesFrom(state, Math.min(left, 8)));
    }
    due.is("rules", x.count(0), rules);
    return x;
  }

  // ---- 1: "No RULES, nobody." ----

  static void promise01_noRules() {
    EverySecondWord x = new EverySecondWord();
    due.is("count(0)", x.count(0), 0);
    due.refused("rule", x, i -> x.rule(i, 0), 0, -1);
  }

  static void promise01_nobody() {
    EverySecondWord x = new EverySecondWord();
    due.is("count(2)", x.count(2), 0);
    due.refused("person", x, i -> x.person(i, 0), 0, -1);
    due.is("talk(4)", x.talk(4), -9);
    due.is("order(0)", x.order(0), 0);
  }

  /** "ENDS: STATES in which a sentence may stop (none at first)." */
  static void promise01_noEndsAtFirst() {
    EverySecondWord x = new EverySecondWord();
    due.is("count(1)", x.count(1), 0);
    due.row("end", x::end, 0, 0, 0, 0, 0, 0, 0, 0);
  }

  /** "LENGTH (1 .. 8; 6 at first)", "LOSS (0 .. 99; 5 at first)". */
  static void promise01_length6AndLoss5AtFirst() {
    EverySecondWord x = new EverySecondWord();
    due.is("count(3)", x.count(3), 6);
    due.is("count(4)", x.count(4), 5);
  }

  /** "A TALK: the STATE, the MEANING (a set of MARKS; none at first)", "a sentence begins in 0". */
  static void promise01_theTalkAtFirst() {
    EverySecondWord x = new EverySecondWord();
    due.row("talk", x::talk, 0, 0, 0, 2, -9, 0, 0);
    due.refused("back", x, i -> x.back(), 0, -3);
  }

  static void promise01_noLettersNoRowNoImageNoRefusals() {
    EverySecondWord x = new EverySecondWord();
    due.row("count of 11 and", i -> x.count(11 + i), 0, 0, 0, 0, 0, 0);
    due.is("count(5)", x.count(5), 0);
    due.is("count(6)", x.count(6), 0);
    due.refused("restore", x, i -> x.restore(), 0, -3);
  }

  static void promise01_twoObjectsShareNothing() {
    EverySecondWord untouched = new EverySecondWord();
    String before = Portrait.of(untouched);
    EverySecondWord x = Due.with("r0a1A;r1b0F;e0;e7;l8;", "p6abcdefgh;p3;v0A+9;");
    x.feed(114);
    x.row(7);
    x.say(0);
    x.image();
    x.set(1, 99);
    due.same("the other one", Portrait.of(untouched), before);
    due.refused("restore", untouched, i -> untouched.restore(), 0, -3);
  }

  // ---- 2: "A letter comes: how many there are. -4; -6 (255; 64, too)." ----

  static void promise02_letter0IsTakenBelowItMinus4() {
    EverySecondWord x = new EverySecondWord();
    due.is("feed(0)", x.feed(0), 1);
    for (int letter : new int[] {-1, -2, -256, Integer.MIN_VALUE}) {
      due.refused("feed", x, x::feed, letter, -4);
    }
    due.is("count(5)", x.count(5), 1);
  }

  static void promise02_letter255IsTakenAboveItMinus6() {
    EverySecondWord x = new EverySecondWord();
    due.is("feed(255)", x.feed(255), 1);
    for (int letter : new int[] {256, 257, 512 + 'e', Integer.MAX_VALUE}) {
      due.refused("feed", x, x::feed, letter, -6);
    }
    due.is("count(5)", x.count(5), 1);
  }

  static void promise02_letter64IsTakenThe65thIsNot() {
    EverySecondWord x = new EverySecondWord();
    for (int i = 1; i <= 64; i++) {
      due.is("feed(59)", x.feed(59), i);
    }
    due.refused("feed", x, x::feed, 59, -6);
    due.is("count(5)", x.count(5), 64);
  }

  static void promise02_fullIsToldBehindBelow() {
    EverySecondWord x = new EverySecondWord();
    Due.feed(x, times(64, ";"));
    due.refused("feed", x, x::feed, -1, -4);
    due.refused("feed", x, x::feed, 256, -6);
    due.refused("feed", x, x::feed, 0, -6);
    due.refused("feed", x, x::feed, 255, -6);
  }

  static void promise02_room64AgainBehindATongue() {
    EverySecondWord x = new EverySecondWord();
    Due.feed(x, times(64, ";"));
    x.tongue();
    due.is("the first", x.feed(101), 1);
    Due.feed(x, times(62, ";"));
    due.is("the last", x.feed(59), 64);
    due.refused("feed", x, x::feed, 59, -6);
  }

  static void promise02_aRefusedLetterIsNotInTheText() {
    EverySecondWord x = new EverySecondWord();
    x.feed(-1);
    x.feed('e');
    x.feed(256 + 'e');
    x.feed('7');
    x.feed(';' - 256);
    x.feed(';');
    due.is("tongue()", x.tongue(), 1);
    due.is("end(7)", x.end(7), 1);
  }

  // ---- 3: "The letters .. are a TONGUE: how many STATEMENTS; the FAULT". ----

  /** "At least one STATEMENT." */
  static void promise03_noLettersLackAStatement() {
    answers("", -1000);
  }

  static void promise03_oneStatementOfEachKindIsATongue() {
    for (String text : new String[] {"r0a0;", "r7h7F;", "e0;", "e7;", "p0;", "p6abcdefgh;", "l1;", "l8;"}) {
      answers(text, 1);
    }
    answers("p0;v0A+0;", 2);
  }

  /** "letters that come one by one (64 at most)": all of them may be a TONGUE. */
  static void promise03_aTongueOf64Letters() {
    answers("p0a;" + times(20, "l1;"), 21);
    EverySecondWord x = Due.with("p0a;" + times(19, "l1;") + "l8;");
    due.is("the last statement of 64 letters", x.count(3), 8);
  }

  /** "FAULT: kind 1 the place of the first letter with which no TONGUE can go on": of all 256 at each place. */
  static void promise03_eachLetterWithWhichNoTongueCanGoOn() {
    tryAllLetters("r3c4B;", "relpv", "0123456789", "abcdefgh", "0123456789", "ABCDEF;", ";");
    tryAllLetters("r3c4;l1;", "relpv", "0123456789", "abcdefgh", "0123456789", "ABCDEF;", "relpv", "0123456789", ";");
    tryAllLetters("e3;", "relpv", "0123456789", ";");
    tryAllLetters("l3;", "relpv", "0123456789", ";");
    tryAllLetters("p3;", "relpv", "0123456789", "abcdefgh;");
    tryAllLetters("p3ceh;", "relpv", "0123456789", "abcdefgh;", "defgh;", "fgh;", ";");
    tryAllLetters("v3C-4;", "relpv", "0123456789", "ABCDEF", "+-", "0123456789", ";");
  }

  private static void tryAllLetters(String text, String... taken) {
    for (int place = 0; place < taken.length; place++) {
      for (int letter = 0; letter < 256; letter++) {
        if (taken[place].indexOf(letter) < 0) {
          EverySecondWord x = new EverySecondWord();
          Due.feed(x, text.substring(0, place) + (char) letter + text.substring(place + 1));
          due.is(text + " with " + letter + " at " + place, x.tongue(), -1000 - place);
        } else if (place > 0 || letter == text.charAt(0)) {
          EverySecondWord x = new EverySecondWord();
          Due.feed(x, text.substring(0, place) + (char) letter + "!");
          due.is(text + " with " + letter + " at " + place + " and then !", x.tongue(), -1000 - place - 1);
        }
      }
    }
  }

  /** "(the end, if something lacks)". */
  static void promise03_theEndIfSomethingLacks() {
    for (String text : new String[] {"r3c4B;", "e3;", "p3ceh;", "v3C-4;", "l3;"}) {
      for (int length = 0; length < text.length(); length++) {
        answers(text.substring(0, length), -1000 - length);
        if (length > 0) {
          answers("e1;r0a0F;" + text.substring(0, length), -1009 - length);
        }
      }
    }
  }

  static void promise03_theEndOf64LettersIfSomethingLacks() {
    answers(times(21, "l1;") + "r", -1064);
    answers(times(20, "l1;") + "p0ab", -1064);
    answers(times(20, "l1;") + "l1;;", -1063);
    answers(times(21, "l1;") + "q", -1063);
  }

  /** "WORDS (rising, perhaps none)". */
  static void promise03_wordsRiseOrThereAreNone() {
    answers("p0;", 1);
    answers("p0a;", 1);
    answers("p0h;", 1);
    answers("p0abcdefgh;", 1);
    answers("p0aceg;", 1);
    answers("p0aa;", -1003);
    answers("p0hh;", -1003);
    answers("p0ba;", -1003);
    answers("p0ha;", -1003);
    answers("p0abcdefgha;", -1010);
    answers("p0acb;", -1004);
  }

  static void promise03_wordsOfAPerson() {
    EverySecondWord x = Due.with("p0;p1a;p2h;p3abcdefgh;");
    due.row("words", i -> x.person(i, 1), 0, 1, 128, 255);
  }

  /** "else kind 2": where there is a fault of kind 1, none of kind 2 is told, though it is ahead. */
  static void promise03_kind1IsToldAheadOfKind2() {
    answers("r9a9;x", -1005);
    answers("e8;p7;r0a", -1009);
    answers("v0A+1;;", -1006);
    answers("l0;e", -1004);
  }

  /** "the place of the first letter", "the first letter of the first STATEMENT". */
  static void promise03_theFirstOfSeveralFaults() {
    answers("xx", -1000);
    answers("e0;xy", -1003);
    answers("e8;e9;p7;", -2000);
    answers("e0;e8;e9;", -2003);
    answers("e0;r0a1;r0a1;e0;", -2008);
  }

  /** "a number out of range": STATES 0 .. 7. */
  static void promise03_states0To7() {
    answers("r0a7;r7a0;e0;e7;", 4);
    for (int state = 8; state <= 9; state++) {
      answers("e7;r" + state + "a0;", -2003);
      answers("e7;r0a" + state + ";", -2003);
      answers("e7;r0a" + state + "A;", -2003);
      answers("e7;e" + state + ";", -2003);
    }
  }

  /** "a number out of range": KINDS 0 .. 6. */
  static void promise03_kinds0To6() {
    for (int kind = 0; kind <= 6; kind++) {
      EverySecondWord x = Due.with("p" + kind + "a;");
      due.is("kind", x.person(0, 0), kind);
    }
    for (int kind = 7; kind <= 9; kind++) {
      answers("e0;p" + kind + ";", -2003);
    }
  }

  /** "a number out of range": LENGTH 1 .. 8. */
  static void promise03_length1To8() {
    for (int length = 1; length <= 8; length++) {
      due.is("length", Due.with("l" + length + ";").count(3), length);
    }
    answers("e0;l0;", -2003);
    answers("e0;l9;", -2003);
    answers("l8;l0;", -2003);
  }

  /** "a WORTH": -9 .. 9. */
  static void promise03_worthsMinus9To9() {
    for (int v = 0; v <= 9; v++) {
      EverySecondWord x = Due.with("p0;v0A+" + v + ";v0F-" + v + ";");
      due.is("worth of A", x.worth(0, 0), v);
      due.is("worth of F", x.worth(0, 5), -v);
    }
  }

  /** "nobody there", "behind all ahead of it in the text". */
  static void promise03_aWorthOfNobody() {
    answers("v0A+1;", -2000);
    answers("v0A+1;p0;", -2000);
    answers("p0;v0A+1;", 2);
    answers("p0;v1A+1;", -2003);
    answers("p0;v9A+1;", -2003);
    answers("p0;p0;p0;v3A+1;", -2009);
    answers("p0;p0;p0;p0;v3F-9;", 5);
    answers("p0;p0;p0;p0;v4F-9;", -2012);
  }

  static void promise03_aWorthOfOneWhoCameEarlier() {
    EverySecondWord x = Due.with("p0;");
    due.is("tongue()", Due.tongue(x, "v0A+1;"), 1);
    due.is("tongue()", Due.tongue(x, "v1A+1;"), -2000);
    due.is("worth", x.worth(0, 0), 1);
  }

  /** "RULES (24 at most)", "no room". */
  static void promise03_rule24IsTakenThe25thIsNot() {
    EverySecondWord x = withRules(23);
    due.is("the 24th and one more", Due.tongue(x, "r5a0;r6a0;"), -2005);
    due.is("nothing of it came", x.count(0), 23);
    due.is("the 24th", Due.tongue(x, "r5a0;"), 1);
    due.is("the 25th", Due.tongue(x, "r6a0;"), -2000);
    due.is("the 25th behind an end", Due.tongue(x, "e0;r6a0;"), -2003);
    due.is("rules", x.count(0), 24);
    due.is("ends", x.count(1), 0);
    due.is("other statements have room", Due.tongue(x, "e0;p0;l2;v0A+1;"), 4);
  }

  /** "PEOPLE 0 .. 3 as they come", "no room". */
  static void promise03_fourPeopleAndNoFifth() {
    answers("p0;p0;p0;p0;", 4);
    answers("p0;p0;p0;p0;p0;", -2012);
    EverySecondWord x = Due.with("p0;p0;p0;");
    due.is("two more", Due.tongue(x, "p0;p0;"), -2003);
    due.is("people", x.count(2), 3);
    due.is("the fourth", Due.tongue(x, "p0;"), 1);
    due.is("the fifth", Due.tongue(x, "p0;"), -2000);
    due.is("people", x.count(2), 4);
  }

  /** "a second RULE from a STATE by a WORD". */
  static void promise03_aSecondRuleFromAStateByAWord() {
    answers("r0a1A;r0a1A;", -2006);
    answers("r0a1A;r0a2;", -2006);
    answers("r0a0;r0b0;r1a0;r1b0;", 4);
    answers("r7h0;r7g0;r6h0;", 3);
    answers("r7h0;r7h0;", -2005);
    EverySecondWord x = Due.with("r0a1A;");
    due.is("in a later text", Due.tongue(x, "r0a2B;"), -2000);
    due.is("the first one stays", x.rule(0, 2), 1);
  }

  static void promise03_aRuleOfATextWithAFaultIsNoFirstOne() {
    EverySecondWord x = new EverySecondWord();
    due.is("a fault behind a rule", Due.tongue(x, "r0a1;e0;e8;"), -2008);
    due.is("the same rule and end, now", Due.tongue(x, "r0a2;e0;"), 2);
    due.is("to", x.rule(0, 2), 2);
  }

  /** "an END told twice". */
  static void promise03_anEndToldTwice() {
    answers("e0;e0;", -2003);
    answers("e7;e0;e7;", -2006);
    answers("e0;e1;e2;e3;e4;e5;e6;e7;", 8);
    EverySecondWord x = Due.with("e0;e7;");
    due.is("in a later text", Due.tongue(x, "e1;e7;"), -2003);
    due.is("ends", x.count(1), 2);
  }

  /** The place of a fault of kind 2 at the last statement that has room. */
  static void promise03_theLastPlacesOfFaults() {
    answers(times(20, "l1;") + "e8;", -2060);
    answers("p0a;" + times(19, "l1;") + "l9;", -2061);
    answers("p0a;" + times(19, "l1;") + "l9x", -1063);
  }

  /** "Without FAULT all of it comes, with one nothing." */
  static void promise03_withAFaultNothingComes() {
    EverySecondWord x = Due.with("r0a1;e1;l3;", "p0a;p1b;v0A+2;");
    String before = Portrait.of(x);
    String ahead = "r1b2C;e2;l7;p2c;v0A-5;v2A+3;";
    due.is("a fault of kind 2", Due.tongue(x, ahead + "e9;"), -2000 - ahead.length());
    due.same("all there is", Portrait.of(x), before);
    due.is("a fault of kind 1", Due.tongue(x, ahead + "e9"), -1000 - ahead.length() - 2);
    due.same("all there is", Portrait.of(x), before);
    due.is("without a fault", Due.tongue(x, ahead), 6);
    due.row("count", x::count, 2, 2, 3, 7);
    due.is("worth", x.worth(0, 0), -5);
    due.is("worth", x.worth(2, 0), 3);
  }

  /** "The letters, which are no more then (with a FAULT neither)". */
  static void promise03_theLettersAreNoMore() {
    EverySecondWord x = new EverySecondWord();
    due.is("a tongue", Due.tongue(x, "e0;"), 1);
    due.is("letters", x.count(5), 0);
    due.is("no letters", x.tongue(), -1000);
    due.is("a fault of kind 1", Due.tongue(x, "e"), -1001);
    due.is("letters", x.count(5), 0);
    due.is("a fault of kind 2", Due.tongue(x, "e0;"), -2000);
    due.is("letters", x.count(5), 0);
    due.is("what is fed then stands alone", Due.tongue(x, "e1;"), 1);
  }

  /** "the FAULT (nothing is counted)". */
  static void promise03_aFaultIsNoRefusal() {
    EverySecondWord x = new EverySecondWord();
    due.is("kind 1", x.tongue(), -1000);
    due.is("kind 1", Due.tongue(x, "x"), -1000);
    due.is("kind 2", Due.tongue(x, "e9;"), -2000);
    due.row("count of 11 and", i -> x.count(11 + i), 0, 0, 0, 0, 0, 0);
  }

  /** "-3 words were said (they stay ..)". */
  static void promise03_wordsWereSaidMinus3() {
    EverySecondWord x = Due.with("r0a0;e0;", "p0a;");
    x.say(0);
    Due.feed(x, "l3;");
    due.refused("tongue", x, i -> x.tongue(), 0, -3);
    due.is("the letters stay", x.count(5), 3);
    due.is("the words stay", x.talk(2), 1);
    x.stop();
    due.refused("tongue", x, i -> x.tongue(), 0, -3);
    x.back();
    x.back();
    due.is("no word is said any more", x.tongue(), 1);
    due.is("length", x.count(3), 3);
  }

  static void promise03_wordsWereSaidAndNoLettersOrAFault() {
    EverySecondWord x = Due.with("r0a0;e0;", "p0a;");
    x.say(0);
    due.refused("tongue", x, i -> x.tongue(), 0, -3);
    x.feed('x');
    due.refused("tongue", x, i -> x.tongue(), 0, -3);
    x.anew();
    due.is("the letter had stayed", x.tongue(), -1000);
  }

  /** "a TALK that was stopped without a word is none, it stays stopped". */
  static void promise03_aTalkStoppedWithoutAWord() {
    EverySecondWord x = Due.with("r0a0;e0;", "p0a;");
    x.stop();
    due.is("tongue()", Due.tongue(x, "l3;p1a;"), 2);
    due.is("OVER", x.talk(3), 1);
    due.is("a fault", Due.tongue(x, "q"), -1000);
    due.is("OVER", x.talk(3), 1);
    due.is("back()", x.back(), 0);
    due.is("not OVER", x.talk(3), 0);
  }

  /** "a WORTH of each MARK (-9 .. 9; 0 at first)", of one who comes where another was, too. */
  static void promise03_oneWhoComesBegins() {
    EverySecondWord x = Due.with("p0;");
    x.image();
    Due.tongue(x, "p3abc;v1A+9;v1F-9;");
    x.order(1);
    x.restore();
    due.is("one comes", Due.tongue(x, "p4;"), 1);
    due.row("worth", mark -> x.worth(1, mark), 0, 0, 0, 0, 0, 0);
    due.row("person", what -> x.person(1, what), 4, 0, 1);
  }

  /** Who comes changes nothing of those who are there. */
  static void promise03_thoseWhoAreThereStayAsTheyAre() {
    EverySecondWord x = new EverySecondWord();
    for (int come = 0; come < 4; come++) {
      due.is("one comes", Due.tongue(x, "p" + come + "abcdefgh".substring(0, 2 * come) + ";"), 1);
      for (int mark = 0; mark < 6; mark++) {
        x.values(come, mark, come + mark + 1);
      }
      for (int person = 0; person <= come; person++) {
        int one = person;
        due.row("person", what -> x.person(one, what), person, (1 << 2 * person) - 1, person);
        due.row("worth", mark -> x.worth(one, mark), one + 1, one + 2, one + 3, one + 4, one + 5, one + 6);
      }
    }
  }

  /** "perhaps a MARK". */
  static void promise03_aRuleWithAMarkOrNone() {
    EverySecondWord x = Due.with("r0a0;r0b0A;r0c0F;");
    due.row("mark", i -> x.rule(i, 3), -9, 0, 5);
  }

  /** The same STATEMENT may come again where the document does not forbid it: the later one holds. */
  static void promise03_lengthAndWorthsMayBeToldAgain() {
    EverySecondWord x = Due.with("p0;l3;l7;v0A+3;v0A-4;");
    due.is("length", x.count(3), 7);
    due.is("worth", x.worth(0, 0), -4);
    due.is("told again", Due.tongue(x, "l7;v0A-4;"), 2);
  }
}
