import java.util.ArrayList;
import java.util.List;
import java.util.function.Supplier;
import java.util.function.ToIntFunction;

/**
 * "REFUSALS (the call answers the number, the first that fits in the order in which it tells them; nothing changes but
 * how many there were)": each refusal of each promise, where it can be, on one of two objects made by the same calls;
 * the two then are alike to the end.
 */
public final class Refusals {
  private static final Due due = new Due();
  private static final int LEAST = Integer.MIN_VALUE;
  private static final int MOST = Integer.MAX_VALUE;
  private static final String[] TONGUE = {"r0a1A;r0b0;r1a0B;r1b1;e1;", "p3ab;p0ab;v0A+2;v1B-3;"};

  private record Refusal(String call, ToIntFunction<EverySecondWord> asked, int number, int answer) {
  }

  private final List<Refusal> told = new ArrayList<>();

  public static void main(String[] args) {
    new Refusals().anywhere().ofNobody().ofNoWords().ofNoImage().areIn("a new object", EverySecondWord::new);
    new Refusals().anywhere().ofNobody().ofNoWords().areIn("nobody there", Refusals::nobodyThere);
    new Refusals().anywhere().ofWordsSaid().ofATalkGoingOn().areIn("a talk begun", Refusals::begun);
    new Refusals().anywhere().ofWordsSaid().ofATalkAtItsEnd().areIn("a talk stopped", Refusals::stopped);
    new Refusals().anywhere().ofWordsSaid().ofATalkAtItsEnd().areIn("a talk stuck", Refusals::stuck);
    new Refusals().anywhere().ofNoWords().ofNoImage().ofNoRoom().areIn("letters and the row full", Refusals::full);
    due.close("Refusals");
  }

  // ---- the objects, each with what a refused call might touch ----

  private static EverySecondWord nobodyThere() {
    EverySecondWord x = Due.with("r0a0A;e0;l3;");
    x.image();
    Due.tongue(x, "e3;");
    Due.feed(x, "e5;");
    x.row(0);
    return x;
  }

  private static EverySecondWord begun() {
    EverySecondWord x = Due.with(TONGUE);
    x.order(1);
    x.say(1);
    x.image();
    Due.feed(x, "e5;");
    x.row(1);
    x.row(0);
    x.say(0);
    x.say(0);
    return x;
  }

  private static EverySecondWord stopped() {
    EverySecondWord x = begun();
    x.back();
    x.stop();
    return x;
  }

  private static EverySecondWord stuck() {
    EverySecondWord x = begun();
    x.word(0, 0, false);
    x.word(0, 1, false);
    x.word(1, 0, false);
    x.word(1, 1, false);
    return x;
  }

  private static EverySecondWord full() {
    EverySecondWord x = Due.with(TONGUE);
    Due.feed(x, "l3;".repeat(21) + "x");
    for (int i = 0; i < 8; i++) {
      x.row(i % 2);
    }
    return x;
  }

  // ---- the refusals ----

  private void is(int number, int promise, String call, ToIntFunction<EverySecondWord> asked) {
    told.add(new Refusal(String.format("promise%02d_%s", promise, call), asked, number, number));
  }

  /** Where worths are answered. */
  private void isWorth(int number, int promise, String call, ToIntFunction<EverySecondWord> asked) {
    told.add(new Refusal(String.format("promise%02d_%s", promise, call), asked, number, 1000000000 - number));
  }

  private Refusals anywhere() {
    for (int one : new int[] {-1, 4, LEAST, MOST}) {
      ofNoSuchPerson(one);
    }
    for (int mark : new int[] {-1, 6, LEAST, MOST}) {
      ofNoSuchMark(mark);
    }
    for (int word : new int[] {-1, 8, LEAST, MOST}) {
      ofNoSuchWord(word);
    }
    for (int what : new int[] {-1, 7, LEAST, MOST}) {
      is(-2, 17, "talk " + what, x -> x.talk(what));
      is(-2, 20, "ends " + what, x -> x.ends(what));
      is(-2, 11, "set " + what, x -> x.set(what, what));
      is(-1, 9, "kind " + what, x -> x.kind(0, what));
    }
    for (int state : new int[] {-1, 8, 24, LEAST, MOST}) {
      is(-1, 5, "end " + state, x -> x.end(state));
      is(-1, 4, "rule " + state, x -> x.rule(state, 4));
    }
    for (int below : new int[] {-2, LEAST}) {
      is(-4, 2, "feed " + below, x -> x.feed(below));
      is(-4, 27, "meanings " + below, x -> x.meanings(below));
      is(-4, 11, "set length " + below, x -> x.set(0, below));
      is(-4, 11, "set loss " + below, x -> x.set(1, below));
      is(-1, 12, "order " + below, x -> x.order(below));
    }
    for (int above : new int[] {256, MOST}) {
      is(-6, 2, "feed " + above, x -> x.feed(above));
      is(-6, 11, "set length " + above, x -> x.set(0, above));
      is(-6, 11, "set loss " + above, x -> x.set(1, above));
      is(-1, 12, "order " + above, x -> x.order(above));
    }
    is(-4, 11, "set length 0", x -> x.set(0, 0));
    is(-6, 11, "set length 9", x -> x.set(0, 9));
    is(-6, 11, "set loss 100", x -> x.set(1, 100));
    return this;
  }

  private void ofNoSuchPerson(int one) {
    is(-1, 6, "person " + one, x -> x.person(one, 3));
    isWorth(-1, 7, "worth " + one, x -> x.worth(one, 0));
    isWorth(-1, 8, "values " + one, x -> x.values(one, 0, 10));
    is(-1, 9, "kind of " + one, x -> x.kind(one, 0));
    is(-1, 10, "word of " + one, x -> x.word(one, 0, true));
    isWorth(-1, 21, "value " + one, x -> x.value(one));
    is(-1, 22, "forces " + one, x -> x.forces(one, 0));
    is(-1, 23, "keeps " + one, x -> x.keeps(one, 0));
    is(-1, 24, "sticks " + one, x -> x.sticks(one));
    is(-1, 25, "holds " + one, x -> x.holds(one));
    isWorth(-1, 26, "sure " + one, x -> x.sure(one));
    is(-1, 29, "begins " + one, x -> x.begins(one));
    is(-1, 30, "turns " + one, x -> x.turns(one));
    is(-1, 31, "buys " + one, x -> x.buys(one));
    isWorth(-1, 32, "price to " + one, x -> x.price(one, 0));
    isWorth(-1, 33, "lacks to " + one, x -> x.lacks(one, 0));
    isWorth(-1, 34, "knows " + one, x -> x.knows(one));
    is(-1, 35, "as " + one, x -> x.as(one));
    is(-1, 36, "least for " + one, x -> x.least(one, 0));
    is(-1, 37, "kinds " + one, x -> x.kinds(one));
    isWorth(-1, 40, "seeds " + one, x -> x.seeds(one, 21, 0));
  }

  private void ofNoSuchMark(int mark) {
    isWorth(-1, 7, "worth of mark " + mark, x -> x.worth(0, mark));
    isWorth(-1, 8, "values of mark " + mark, x -> x.values(0, mark, -10));
    is(-1, 22, "forces mark " + mark, x -> x.forces(0, mark));
    is(-1, 23, "keeps mark " + mark, x -> x.keeps(0, mark));
    is(-1, 36, "least of mark " + mark, x -> x.least(0, mark));
  }

  private void ofNoSuchWord(int word) {
    is(-1, 10, "word " + word, x -> x.word(0, word, true));
    is(-1, 13, "say " + word, x -> x.say(word));
    isWorth(-1, 32, "price of " + word, x -> x.price(0, word));
    isWorth(-1, 33, "lacks of " + word, x -> x.lacks(0, word));
    is(-1, 38, "row " + word, x -> x.row(word));
  }

  private Refusals ofNobody() {
    is(-3, 13, "say", x -> x.say(0));
    is(-3, 14, "stop", EverySecondWord::stop);
    is(-3, 19, "goes", EverySecondWord::goes);
    is(-3, 20, "ends", x -> x.ends(0));
    is(-3, 27, "meanings", x -> x.meanings(-1));
    is(-3, 28, "canStick", EverySecondWord::canStick);
    is(-3, 39, "judge", EverySecondWord::judge);
    is(-1, 12, "order of nobody", x -> x.order(1));
    return this;
  }

  private Refusals ofNoWords() {
    is(-3, 15, "back", EverySecondWord::back);
    return this;
  }

  private Refusals ofNoImage() {
    is(-3, 42, "restore", EverySecondWord::restore);
    return this;
  }

  private Refusals ofWordsSaid() {
    is(-3, 3, "tongue", EverySecondWord::tongue);
    is(-3, 12, "order as it is", x -> x.order(1));
    is(-3, 12, "order", x -> x.order(10));
    is(-1, 12, "no order", x -> x.order(11));
    ofOnePersonAndRule();
    return this;
  }

  private void ofOnePersonAndRule() {
    is(-2, 4, "rule, what 4", x -> x.rule(0, 4));
    is(-2, 4, "rule, what -1", x -> x.rule(3, -1));
    is(-1, 4, "rule behind the last", x -> x.rule(4, 0));
    is(-2, 6, "person, what 3", x -> x.person(1, 3));
    is(-2, 6, "person, what -1", x -> x.person(0, -1));
    is(-1, 6, "person behind the last", x -> x.person(2, 0));
    isWorth(-4, 8, "values -10", x -> x.values(0, 0, -10));
    isWorth(-6, 8, "values 10", x -> x.values(1, 5, 10));
    isWorth(-1, 8, "values behind the last", x -> x.values(2, 0, 0));
    isWorth(-4, 40, "seeds 0", x -> x.seeds(0, 0, 1));
    isWorth(-6, 40, "seeds 21", x -> x.seeds(1, 21, 1));
  }

  private Refusals ofATalkGoingOn() {
    is(-3, 13, "say what it has not", x -> x.say(7));
    is(-3, 14, "stop in no END", EverySecondWord::stop);
    return this;
  }

  private Refusals ofATalkAtItsEnd() {
    is(-3, 13, "say at the end", x -> x.say(0));
    is(-3, 13, "say another at the end", x -> x.say(1));
    is(-3, 14, "stop at the end", EverySecondWord::stop);
    is(-3, 19, "goes at the end", EverySecondWord::goes);
    return this;
  }

  private Refusals ofNoRoom() {
    is(-6, 2, "feed a 65th", x -> x.feed(59));
    is(-4, 2, "feed a 65th below", x -> x.feed(-1));
    is(-6, 38, "row of a ninth", x -> x.row(0));
    is(-1, 38, "row of a ninth that is none", x -> x.row(8));
    ofOnePersonAndRule();
    return this;
  }

  // ---- each of them on one of two ----

  private void areIn(String world, Supplier<EverySecondWord> made) {
    String untouched = Portrait.whole(made.get());
    for (Refusal r : told) {
      EverySecondWord x = made.get();
      due.begin(r.call + ", " + world);
      int[] before = counts(x);
      due.is("the answer", r.asked.applyAsInt(x), r.answer);
      int[] then = counts(x);
      for (int i = 1; i <= 6; i++) {
        due.is("count(" + (10 + i) + ")", then[i], before[i] + (i == -r.number ? 1 : 0));
      }
      due.same("all else", Portrait.whole(x), untouched);
    }
  }

  private static int[] counts(EverySecondWord x) {
    int[] counts = new int[7];
    for (int i = 1; i <= 6; i++) {
      counts[i] = x.count(10 + i);
    }
    return counts;
  }
}
