/** Sentences that several people make, each a word in turn, by a grammar with meanings. */
public final class EverySecondWord {
  private static final int NOBODY = -1;
  private static final int OTHER = -2;
  private static final int STATE = -3;
  private static final int BELOW = -4;
  private static final int ROOM = -6;
  private static final int NONE = -9;
  private static final int WORTHS_REFUSED = 1000000000;

  private static final int MARKS = 6;
  private static final int WORDS = 8;
  private static final int STATES = 8;
  private static final int KINDS = 7;
  private static final int BEST = 0;
  private static final int PLAIN = 1;
  private static final int SPITE = 2;
  private static final int KINDLY = 3;
  private static final int BLIND = 4;
  private static final int BRIEF = 5;
  private static final int GREEDY = 6;
  private static final int MOST_RULES = 24;
  private static final int MOST_PEOPLE = 4;
  private static final int MOST_LENGTH = 8;
  private static final int MOST_LOSS = 99;
  private static final int MOST_WORTH = 9;
  private static final int MOST_LETTERS = 64;
  private static final int MOST_ROW = 8;
  private static final int MOST_TALKS = 20;
  private static final int STOP = 8;

  private final World world;
  private final World image = new World();
  private final Reader reader = new Reader();
  private final Mind mind;
  private final Beginnings beginnings;
  private final Power power;
  private final Reach reach;
  private final int[] row = new int[MOST_ROW];
  private final int[] refusals = new int[7];
  private int rowSize = 0;
  private boolean hasImage = false;

  public EverySecondWord() {
    World made = new World();
    Mind minds = new Mind(made);
    world = made;
    mind = minds;
    beginnings = new Beginnings(made, minds);
    power = new Power(made, minds);
    reach = new Reach(made);
  }

  // ---- what there is ----

  public int feed(int letter) {
    if (letter < 0) {
      return refused(BELOW);
    }
    if (letter > 255 || reader.isFull()) {
      return refused(ROOM);
    }
    return reader.accept(letter);
  }

  public int tongue() {
    return world.talk.size > 0 ? refused(STATE) : reader.readInto(world);
  }

  public int rule(int rule, int what) {
    if (rule < 0 || rule >= world.grammar.size) {
      return refused(NOBODY);
    }
    if (what < 0 || what > 3) {
      return refused(OTHER);
    }
    return world.grammar.tells(rule, what);
  }

  public int end(int state) {
    if (state < 0 || state >= STATES) {
      return refused(NOBODY);
    }
    return world.grammar.isEnd(state) ? 1 : 0;
  }

  public int person(int person, int what) {
    if (isNobody(person)) {
      return refused(NOBODY);
    }
    switch (what) {
      case 0:
        return world.people.kindOf(person);
      case 1:
        return world.people.wordsOf(person);
      case 2:
        return world.people.placeOf(person);
      default:
        return refused(OTHER);
    }
  }

  public int worth(int person, int mark) {
    return isNobody(person) || isNoMark(mark) ? worthRefused(NOBODY) : world.people.worthOf(person, mark);
  }

  public int values(int person, int mark, int v) {
    if (isNobody(person) || isNoMark(mark)) {
      return worthRefused(NOBODY);
    }
    if (v < -MOST_WORTH) {
      return worthRefused(BELOW);
    }
    if (v > MOST_WORTH) {
      return worthRefused(ROOM);
    }
    int was = world.people.worthOf(person, mark);
    world.people.putWorth(person, mark, v);
    return was;
  }

  public int kind(int person, int kind) {
    if (isNobody(person) || kind < 0 || kind >= KINDS) {
      return refused(NOBODY);
    }
    int was = world.people.kindOf(person);
    world.people.putKind(person, kind);
    return was;
  }

  public int word(int person, int word, boolean has) {
    if (isNobody(person) || isNoWord(word)) {
      return refused(NOBODY);
    }
    return world.people.putWord(person, word, has) ? 1 : 0;
  }

  public int set(int what, int v) {
    if (what != 0 && what != 1) {
      return refused(OTHER);
    }
    if (v < (what == 0 ? 1 : 0)) {
      return refused(BELOW);
    }
    if (v > (what == 0 ? MOST_LENGTH : MOST_LOSS)) {
      return refused(ROOM);
    }
    int was = what == 0 ? world.length : world.loss;
    if (what == 0) {
      world.length = v;
    } else {
      world.loss = v;
    }
    return was;
  }

  public int order(int digits) {
    if (!world.people.isOrder(digits)) {
      return refused(NOBODY);
    }
    if (world.talk.size > 0) {
      return refused(STATE);
    }
    int was = world.people.orderDigits();
    world.people.putOrder(digits);
    return was;
  }

  // ---- the talk ----

  public int say(int word) {
    if (isNoWord(word)) {
      return refused(NOBODY);
    }
    if ((world.optionsNow() >> word & 1) == 0) {
      return refused(STATE);
    }
    return sayNow(word);
  }

  public int stop() {
    if ((world.optionsNow() >> STOP & 1) == 0) {
      return refused(STATE);
    }
    world.talk.stopped = true;
    return meaningAt(world.talk.spot());
  }

  public int back() {
    return world.talk.takeBack() ? world.talk.size : refused(STATE);
  }

  public int anew() {
    int was = world.talk.size;
    world.talk.beginAnew();
    return was;
  }

  public int talk(int what) {
    int spot = world.talk.spot();
    switch (what) {
      case 0:
        return stateAt(spot);
      case 1:
        return meaningAt(spot);
      case 2:
        return countAt(spot);
      case 3:
        return howTheTalkStands();
      case 4:
        return world.sayerNow();
      case 5:
        return world.optionsNow() & 255;
      case 6:
        return world.optionsNow() >> STOP & 1;
      default:
        return refused(OTHER);
    }
  }

  public int does() {
    mind.renew();
    return mind.deedNow();
  }

  public int goes() {
    mind.renew();
    int deed = mind.deedNow();
    if (deed == NONE) {
      return refused(STATE);
    }
    if (deed == STOP) {
      world.talk.stopped = true;
    } else {
      sayNow(deed);
    }
    return deed;
  }

  public int ends(int what) {
    if (what < 0 || what > 2) {
      return refused(OTHER);
    }
    if (world.people.size == 0) {
      return refused(STATE);
    }
    mind.renew();
    int end = mind.endNow();
    if (what == 0) {
      return endMeaning(end);
    }
    return what == 1 ? endStuck(end) : endCount(end);
  }

  public int value(int person) {
    if (isNobody(person)) {
      return worthRefused(NOBODY);
    }
    mind.renew();
    return mind.worthOfEnd(person, mind.endNow());
  }

  // ---- in mind, from the talk as it is ----

  public int forces(int person, int mark) {
    if (isNobody(person) || isNoMark(mark)) {
      return refused(NOBODY);
    }
    return power.ensuresNow(person, power.meaningsWith(mark), false) ? 1 : 0;
  }

  public int keeps(int person, int mark) {
    if (isNobody(person) || isNoMark(mark)) {
      return refused(NOBODY);
    }
    return power.ensuresNow(person, ~power.meaningsWith(mark), true) ? 1 : 0;
  }

  public int sticks(int person) {
    if (isNobody(person)) {
      return refused(NOBODY);
    }
    return power.ensuresNow(person, 0L, true) ? 1 : 0;
  }

  public int holds(int person) {
    return isNobody(person) ? refused(NOBODY) : power.mostWords(person);
  }

  public int sure(int person) {
    return isNobody(person) ? worthRefused(NOBODY) : power.surestWorth(person);
  }

  public int meanings(int i) {
    if (i < -1) {
      return refused(BELOW);
    }
    if (world.people.size == 0) {
      return refused(STATE);
    }
    reach.look();
    return i == -1 ? Long.bitCount(reach.meanings) : bitInRow(reach.meanings, i);
  }

  public int canStick() {
    if (world.people.size == 0) {
      return refused(STATE);
    }
    reach.look();
    return reach.stuck ? 1 : 0;
  }

  // ---- in mind, from the beginning ----

  public int begins(int person) {
    return isNobody(person) ? refused(NOBODY) : beginnings.bestTurning(person);
  }

  public int turns(int person) {
    return isNobody(person) ? refused(NOBODY) : beginnings.bestOrder(person);
  }

  public int buys(int person) {
    return isNobody(person) ? refused(NOBODY) : beginnings.bestWord(person);
  }

  public int price(int person, int word) {
    if (isNobody(person) || isNoWord(word)) {
      return worthRefused(NOBODY);
    }
    return beginnings.gain(person, word, true);
  }

  public int lacks(int person, int word) {
    if (isNobody(person) || isNoWord(word)) {
      return worthRefused(NOBODY);
    }
    return beginnings.gain(person, word, false);
  }

  public int knows(int person) {
    return isNobody(person) ? worthRefused(NOBODY) : beginnings.gainOfSight(person);
  }

  public int as(int person) {
    return isNobody(person) ? refused(NOBODY) : beginnings.bestKind(person);
  }

  public int least(int person, int mark) {
    if (isNobody(person) || isNoMark(mark)) {
      return refused(NOBODY);
    }
    return power.fewestRules(person, mark);
  }

  public int kinds(int person) {
    return isNobody(person) ? refused(NOBODY) : mind.kindsFitting(person);
  }

  // ---- told words, talks by seeds, the image, counts ----

  public int row(int word) {
    if (isNoWord(word)) {
      return refused(NOBODY);
    }
    if (rowSize < 0 || rowSize >= MOST_ROW) {
      return refused(ROOM);
    }
    row[rowSize] = word;
    rowSize++;
    return rowSize;
  }

  public int judge() {
    if (world.people.size == 0) {
      return refused(STATE);
    }
    int words = rowSize;
    rowSize = 0;
    int spot = 0;
    for (int i = 0; i < words && i < MOST_ROW; i++) {
      if ((world.options(spot) >> row[i] & 1) == 0) {
        return i;
      }
      spot = world.after(spot, row[i]);
    }
    return NONE;
  }

  public int seeds(int person, int n, int z) {
    if (isNobody(person)) {
      return worthRefused(NOBODY);
    }
    if (n < 1) {
      return worthRefused(BELOW);
    }
    if (n > MOST_TALKS) {
      return worthRefused(ROOM);
    }
    return beginnings.sumOfTalks(person, n, z);
  }

  public int image() {
    image.copyFrom(world);
    hasImage = true;
    return world.talk.size;
  }

  public int restore() {
    if (!hasImage) {
      return refused(STATE);
    }
    world.copyFrom(image);
    return world.talk.size;
  }

  public int count(int what) {
    switch (what) {
      case 0:
        return world.grammar.size;
      case 1:
        return Integer.bitCount(world.grammar.ends);
      case 2:
        return world.people.size;
      case 3:
        return world.length;
      case 4:
        return world.loss;
      case 5:
        return reader.size;
      case 6:
        return rowSize;
      default:
        return what >= 11 && what <= 16 ? refusals[what - 10] : NONE;
    }
  }

  // ---- what the calls above share ----

  private int refused(int number) {
    if (number < 0 && number > -refusals.length) {
      refusals[-number]++;
    }
    return number;
  }

  private int worthRefused(int number) {
    return WORTHS_REFUSED - refused(number);
  }

  private boolean isNobody(int person) {
    return person < 0 || person >= world.people.size;
  }

  private static boolean isNoMark(int mark) {
    return mark < 0 || mark >= MARKS;
  }

  private static boolean isNoWord(int word) {
    return word < 0 || word >= WORDS;
  }

  private int sayNow(int word) {
    int spot = world.after(world.talk.spot(), word);
    world.talk.add(word, spot);
    return stateAt(spot);
  }

  private int howTheTalkStands() {
    if (world.optionsNow() != 0) {
      return 0;
    }
    return world.talk.stopped || world.grammar.isEnd(stateAt(world.talk.spot())) ? 1 : 2;
  }

  // A spot is where a talk can stand, in one number: words said, state, meaning.

  private static int spotOf(int count, int state, int meaning) {
    return count << 9 | state << 6 | meaning;
  }

  private static int countAt(int spot) {
    return spot >> 9;
  }

  private static int stateAt(int spot) {
    return spot >> 6 & 7;
  }

  private static int meaningAt(int spot) {
    return spot & 63;
  }

  /** Where the row of a count begins, where those of even counts and of odd ones take turns in one array. */
  private static int rowOf(int count) {
    return (count & 1) * STATES;
  }

  private static int bitInRow(long bits, int place) {
    int left = place;
    for (int i = 0; i < 64; i++) {
      if ((bits >>> i & 1L) != 0L) {
        if (left == 0) {
          return i;
        }
        left--;
      }
    }
    return NONE;
  }

  // An end is how a talk can end, in one number: words said, stuck or not, meaning.

  private static int endOf(int count, boolean stuck, int meaning) {
    return count << 7 | (stuck ? 64 : 0) | meaning;
  }

  private static int endCount(int end) {
    return end >> 7;
  }

  private static int endStuck(int end) {
    return end >> 6 & 1;
  }

  private static int endMeaning(int end) {
    return end & 63;
  }

  /** The rules from state to state, and the states in which a sentence may stop. */
  private static final class Grammar {
    private static final long[] MEANINGS_WITHOUT = {
      0x5555555555555555L, 0x3333333333333333L, 0x0F0F0F0F0F0F0F0FL,
      0x00FF00FF00FF00FFL, 0x0000FFFF0000FFFFL, 0x00000000FFFFFFFFL
    };
    private final int[] from = new int[MOST_RULES];
    private final int[] by = new int[MOST_RULES];
    private final int[] to = new int[MOST_RULES];
    private final int[] mark = new int[MOST_RULES];
    private final int[] ruleBy = new int[STATES * WORDS];
    private final int[] wordsFrom = new int[STATES];
    private int size = 0;
    private int ends = 0;

    void copyFrom(Grammar other) {
      System.arraycopy(other.from, 0, from, 0, MOST_RULES);
      System.arraycopy(other.by, 0, by, 0, MOST_RULES);
      System.arraycopy(other.to, 0, to, 0, MOST_RULES);
      System.arraycopy(other.mark, 0, mark, 0, MOST_RULES);
      System.arraycopy(other.ruleBy, 0, ruleBy, 0, STATES * WORDS);
      System.arraycopy(other.wordsFrom, 0, wordsFrom, 0, STATES);
      size = other.size;
      ends = other.ends;
    }

    boolean addRule(int state, int word, int next, int sign) {
      boolean inRange = isState(state) && isState(next) && word >= 0 && word < WORDS;
      if (!inRange || size < 0 || size >= MOST_RULES || (wordsFrom[state] >> word & 1) != 0) {
        return false;
      }
      from[size] = state;
      by[size] = word;
      to[size] = next;
      mark[size] = sign;
      ruleBy[state * WORDS + word] = size;
      wordsFrom[state] |= 1 << word;
      size++;
      return true;
    }

    boolean addEnd(int state) {
      if (!isState(state) || isEnd(state)) {
        return false;
      }
      ends |= 1 << state;
      return true;
    }

    boolean isEnd(int state) {
      return isState(state) && (ends >> state & 1) != 0;
    }

    int wordsFrom(int state) {
      return isState(state) ? wordsFrom[state] : 0;
    }

    int tells(int rule, int what) {
      if (rule < 0 || rule >= MOST_RULES) {
        return NONE;
      }
      switch (what) {
        case 0:
          return from[rule];
        case 1:
          return by[rule];
        case 2:
          return to[rule];
        default:
          return mark[rule];
      }
    }

    // The states of a rule are places in the rows of those who ask: nothing but 0 .. 7 is told, whatever came in.

    int stateFrom(int rule) {
      return rule >= 0 && rule < MOST_RULES && isState(from[rule]) ? from[rule] : 0;
    }

    int stateTo(int rule) {
      return rule >= 0 && rule < MOST_RULES && isState(to[rule]) ? to[rule] : 0;
    }

    /** The spot behind a word: the count grows in any case, so that no walk over spots is without end. */
    int spotBehind(int spot, int word) {
      int state = stateAt(spot);
      int rule = word >= 0 && word < WORDS ? ruleBy[state * WORDS + word] : NONE;
      if (rule < 0 || rule >= MOST_RULES) {
        return spotOf(countAt(spot) + 1, state, meaningAt(spot));
      }
      int bit = mark[rule] < 0 ? 0 : 1 << mark[rule];
      return spotOf(countAt(spot) + 1, to[rule], meaningAt(spot) ^ bit);
    }

    /** The meanings behind a rule's word for those ahead of it, and the other way round. */
    long acrossRule(int rule, long meanings) {
      int sign = rule >= 0 && rule < MOST_RULES ? mark[rule] : NONE;
      if (sign < 0 || sign >= MARKS) {
        return meanings;
      }
      int shift = 1 << sign;
      long without = MEANINGS_WITHOUT[sign];
      return (meanings & without) << shift | meanings >>> shift & without;
    }

    long meaningsWithout(int sign) {
      return sign >= 0 && sign < MARKS ? MEANINGS_WITHOUT[sign] : -1L;
    }

    private static boolean isState(int state) {
      return state >= 0 && state < STATES;
    }
  }

  /** The people: kinds, words, worths, and who speaks when. */
  private static final class People {
    private final int[] kinds = new int[MOST_PEOPLE];
    private final int[] words = new int[MOST_PEOPLE];
    private final int[] worths = new int[MOST_PEOPLE * MARKS];
    private final int[] turns = new int[MOST_PEOPLE];
    private int size = 0;

    void copyFrom(People other) {
      System.arraycopy(other.kinds, 0, kinds, 0, MOST_PEOPLE);
      System.arraycopy(other.words, 0, words, 0, MOST_PEOPLE);
      System.arraycopy(other.worths, 0, worths, 0, MOST_PEOPLE * MARKS);
      System.arraycopy(other.turns, 0, turns, 0, MOST_PEOPLE);
      size = other.size;
    }

    boolean add(int kind, int has) {
      if (kind < 0 || kind >= KINDS || size < 0 || size >= MOST_PEOPLE) {
        return false;
      }
      kinds[size] = kind;
      words[size] = has;
      turns[size] = size;
      for (int i = 0; i < MARKS; i++) {
        worths[size * MARKS + i] = 0;
      }
      size++;
      return true;
    }

    boolean has(int person) {
      return person >= 0 && person < size && person < MOST_PEOPLE;
    }

    int kindOf(int person) {
      return has(person) ? kinds[person] : NONE;
    }

    void putKind(int person, int kind) {
      if (has(person)) {
        kinds[person] = kind;
      }
    }

    int wordsOf(int person) {
      return person >= 0 && person < MOST_PEOPLE ? words[person] : 0;
    }

    /** Whether that changed anything. */
    boolean putWord(int person, int word, boolean has) {
      if (!has(person) || ((words[person] >> word & 1) != 0) == has) {
        return false;
      }
      words[person] ^= 1 << word;
      return true;
    }

    int worthOf(int person, int mark) {
      return has(person) && mark >= 0 && mark < MARKS ? worths[person * MARKS + mark] : 0;
    }

    boolean putWorth(int person, int mark, int v) {
      if (!has(person) || mark < 0 || mark >= MARKS) {
        return false;
      }
      worths[person * MARKS + mark] = v;
      return true;
    }

    int atTurn(int count) {
      if (size <= 0 || count < 0) {
        return NONE;
      }
      int place = count % size;
      return place < MOST_PEOPLE ? turns[place] : NONE;
    }

    int placeOf(int person) {
      for (int i = 0; i < size && i < MOST_PEOPLE; i++) {
        if (turns[i] == person) {
          return i;
        }
      }
      return NONE;
    }

    int orderDigits() {
      int digits = 0;
      for (int i = MOST_PEOPLE - 1; i >= 0; i--) {
        digits = i < size ? digits * 10 + turns[i] : digits;
      }
      return digits;
    }

    boolean isOrder(int digits) {
      int rest = digits;
      int seen = 0;
      for (int i = 0; i < size; i++) {
        int digit = rest % 10;
        if (rest < 0 || digit >= size || (seen >> digit & 1) != 0) {
          return false;
        }
        seen |= 1 << digit;
        rest /= 10;
      }
      return rest == 0;
    }

    void putOrder(int digits) {
      int rest = digits;
      for (int i = 0; i < size && i < MOST_PEOPLE; i++) {
        turns[i] = rest % 10;
        rest /= 10;
      }
    }

    void turnByOne() {
      int first = turns[0];
      for (int i = 1; i < size && i < MOST_PEOPLE; i++) {
        turns[i - 1] = turns[i];
      }
      if (size > 0 && size <= MOST_PEOPLE) {
        turns[size - 1] = first;
      }
    }
  }

  /** The words that were said, and the spots at which they left the talk. */
  private static final class Talk {
    private final int[] words = new int[MOST_LENGTH];
    private final int[] spots = new int[MOST_LENGTH + 1];
    private int size = 0;
    private boolean stopped = false;

    void copyFrom(Talk other) {
      System.arraycopy(other.words, 0, words, 0, MOST_LENGTH);
      System.arraycopy(other.spots, 0, spots, 0, MOST_LENGTH + 1);
      size = other.size;
      stopped = other.stopped;
    }

    int spot() {
      return spotBefore(size);
    }

    int spotBefore(int i) {
      return i >= 0 && i <= MOST_LENGTH ? spots[i] : 0;
    }

    int wordAt(int i) {
      return i >= 0 && i < MOST_LENGTH ? words[i] : NONE;
    }

    void add(int word, int spot) {
      if (size >= 0 && size < MOST_LENGTH) {
        words[size] = word;
        size++;
        spots[size] = spot;
      }
    }

    boolean takeBack() {
      if (stopped) {
        stopped = false;
        return true;
      }
      if (size == 0) {
        return false;
      }
      size--;
      return true;
    }

    void beginAnew() {
      size = 0;
      stopped = false;
    }
  }

  /** All that the image holds. */
  private static final class World {
    private final Grammar grammar = new Grammar();
    private final People people = new People();
    private final Talk talk = new Talk();
    private int length = 6;
    private int loss = 5;

    void copyFrom(World other) {
      grammar.copyFrom(other.grammar);
      people.copyFrom(other.people);
      talk.copyFrom(other.talk);
      length = other.length;
      loss = other.loss;
    }

    boolean putLength(int v) {
      if (v < 1 || v > MOST_LENGTH) {
        return false;
      }
      length = v;
      return true;
    }

    int sayer(int spot) {
      return people.atTurn(countAt(spot));
    }

    /** The words of the one whose turn it is behind so many words; none when LENGTH were said. */
    int wordsAt(int count) {
      return count < length ? people.wordsOf(people.atTurn(count)) : 0;
    }

    /** What may be done at a spot, as bits: the words, and STOP; none where a talk ends by itself. */
    int options(int spot) {
      int state = stateAt(spot);
      int words = wordsAt(countAt(spot)) & grammar.wordsFrom(state);
      return words != 0 && grammar.isEnd(state) ? words | 1 << STOP : words;
    }

    int optionsNow() {
      return talk.stopped ? 0 : options(talk.spot());
    }

    /** Nobody's turn it is when the talk is at its end, where nothing may be done. */
    int sayerNow() {
      return optionsNow() == 0 ? NONE : sayer(talk.spot());
    }

    int after(int spot, int word) {
      return grammar.spotBehind(spot, word);
    }

    int endByStop(int spot) {
      return endOf(countAt(spot), false, meaningAt(spot));
    }

    int endByItself(int spot) {
      return endOf(countAt(spot), !grammar.isEnd(stateAt(spot)), meaningAt(spot));
    }
  }

  /** Letters as they come, and the tongue that they are. */
  private static final class Reader {
    private final int[] letters = new int[MOST_LETTERS];
    private final World trial = new World();
    private int size = 0;
    private int at = 0;

    boolean isFull() {
      return size >= MOST_LETTERS;
    }

    int accept(int letter) {
      if (size >= 0 && size < MOST_LETTERS) {
        letters[size] = letter;
        size++;
      }
      return size;
    }

    /** How many statements came into the world, or the fault; the letters are no more. */
    int readInto(World world) {
      int answer;
      if (isWellFormed()) {
        trial.copyFrom(world);
        answer = applyAll();
        if (answer > 0) {
          world.copyFrom(trial);
        }
      } else {
        answer = -1000 - at;
      }
      size = 0;
      return answer;
    }

    /** Where it is not, the place of the first wrong letter is left in 'at'. */
    private boolean isWellFormed() {
      at = 0;
      boolean fine = isStatement();
      for (int i = 0; i < MOST_LETTERS && fine && at < size; i++) {
        fine = isStatement();
      }
      return fine;
    }

    private boolean isStatement() {
      if (take('r', 'r')) {
        return take('0', '9') && take('a', 'h') && take('0', '9') && isEndOfRule();
      }
      if (take('e', 'e') || take('l', 'l')) {
        return take('0', '9') && take(';', ';');
      }
      if (take('p', 'p')) {
        return take('0', '9') && isEndOfPerson();
      }
      return take('v', 'v') && take('0', '9') && take('A', 'F') && (take('+', '+') || take('-', '-'))
          && take('0', '9') && take(';', ';');
    }

    private boolean take(int low, int high) {
      if (at >= size || letter(at) < low || letter(at) > high) {
        return false;
      }
      at++;
      return true;
    }

    private boolean isEndOfRule() {
      take('A', 'F');
      return take(';', ';');
    }

    private boolean isEndOfPerson() {
      for (int word = 'a'; word <= 'h'; word++) {
        take(word, word);
      }
      return take(';', ';');
    }

    private int applyAll() {
      int statements = 0;
      int start = 0;
      for (int i = 0; i < size; i++) {
        if (letter(i) == ';') {
          if (!applies(start)) {
            return -2000 - start;
          }
          statements++;
          start = i + 1;
        }
      }
      return statements;
    }

    private boolean applies(int start) {
      int digit = letter(start + 1) - '0';
      switch (letter(start)) {
        case 'r':
          return trial.grammar.addRule(digit, letter(start + 2) - 'a', letter(start + 3) - '0', markAt(start + 4));
        case 'e':
          return trial.grammar.addEnd(digit);
        case 'p':
          return trial.people.add(digit, wordsFrom(start + 2));
        case 'v':
          return trial.people.putWorth(digit, letter(start + 2) - 'A', signedDigitAt(start + 3));
        default:
          return trial.putLength(digit);
      }
    }

    private int letter(int i) {
      return i >= 0 && i < MOST_LETTERS ? letters[i] : 0;
    }

    private int markAt(int i) {
      return letter(i) == ';' ? NONE : letter(i) - 'A';
    }

    private int signedDigitAt(int i) {
      int digit = letter(i + 1) - '0';
      return letter(i) == '-' ? -digit : digit;
    }

    private int wordsFrom(int start) {
      int words = 0;
      for (int i = start; i < size && letter(i) != ';'; i++) {
        words |= 1 << (letter(i) - 'a');
      }
      return words;
    }
  }

  /** What the sayers do by their kinds, and how talks end by that. */
  private static final class Mind {
    private static final int ALL = MOST_PEOPLE;
    private static final int SLOTS = 65;
    private static final int SLOT_STUCK = 64;
    private static final int SPOTS = MOST_LENGTH << 9;
    private static final int END_BITS = 11;
    private static final int END_MASK = (1 << END_BITS) - 1;
    private static final int OLDEST = 1 << 20;

    private final World world;
    // Each entry bears the age in which it was found: renewing makes all of them old at once.
    private final int[] ends = new int[SPOTS];
    private final int[] dreams = new int[SPOTS];
    private final int[] worths = new int[(MOST_PEOPLE + 1) * SLOTS];
    private int age = 0;

    Mind(World world) {
      this.world = world;
    }

    /** To be called whenever the world may be another than at the last question. */
    void renew() {
      age++;
      if (age >= OLDEST) {
        for (int i = 0; i < SPOTS; i++) {
          ends[i] = 0;
          dreams[i] = 0;
        }
        age = 1;
      }
      weighAllEnds();
    }

    int deedNow() {
      return world.talk.stopped ? NONE : deedAt(world.talk.spot());
    }

    int endNow() {
      int spot = world.talk.spot();
      return world.talk.stopped ? world.endByStop(spot) : endFrom(spot);
    }

    /** What the end of a talk from the beginning is worth to one, in the world as it is at this call. */
    int worthFromBeginning(int person) {
      renew();
      return worthOfEnd(person, endFrom(0));
    }

    int worthOfEnd(int person, int end) {
      return worthAt(person, endStuck(end) == 1 ? SLOT_STUCK : endMeaning(end));
    }

    int kindsFitting(int person) {
      int was = world.people.kindOf(person);
      int fitting = 0;
      for (int kind = 0; kind < KINDS; kind++) {
        world.people.putKind(person, kind);
        renew();
        fitting |= fits(person) ? 1 << kind : 0;
      }
      world.people.putKind(person, was);
      return fitting;
    }

    private boolean fits(int person) {
      for (int i = 0; i < world.talk.size; i++) {
        if (world.people.atTurn(i) == person && deedAt(world.talk.spotBefore(i)) != world.talk.wordAt(i)) {
          return false;
        }
      }
      int spot = world.talk.spot();
      return !world.talk.stopped || world.sayer(spot) != person || deedAt(spot) == STOP;
    }

    private void weighAllEnds() {
      int people = world.people.size;
      for (int slot = 0; slot < SLOTS; slot++) {
        int all = 0;
        for (int person = 0; person < people && person < MOST_PEOPLE; person++) {
          int worth = slot == SLOT_STUCK ? -world.loss : weighMeaning(person, slot);
          worths[person * SLOTS + slot] = worth;
          all += worth;
        }
        worths[ALL * SLOTS + slot] = all;
      }
    }

    /** Built on the meaning without its lowest mark, which was weighed before. */
    private int weighMeaning(int person, int meaning) {
      if (meaning == 0) {
        return 0;
      }
      int mark = Integer.numberOfTrailingZeros(meaning);
      return worthAt(person, meaning & meaning - 1) + world.people.worthOf(person, mark);
    }

    private int worthAt(int person, int slot) {
      int i = person * SLOTS + slot;
      return i >= 0 && i < worths.length ? worths[i] : 0;
    }

    private int deedAt(int spot) {
      int options = world.options(spot);
      if (options == 0) {
        return NONE;
      }
      int sayer = world.sayer(spot);
      int kind = world.people.kindOf(sayer);
      if (kind == BRIEF && (options >> STOP & 1) != 0) {
        return STOP;
      }
      if (kind == BRIEF || kind == PLAIN) {
        return leastOf(options);
      }
      return bestDeed(spot, options, sayer, kind);
    }

    private int bestDeed(int spot, int options, int sayer, int kind) {
      int best = NONE;
      int most = 0;
      for (int deed = 0; deed <= STOP; deed++) {
        if ((options >> deed & 1) != 0) {
          int worth = weigh(spot, deed, sayer, kind);
          if (best == NONE || worth > most) {
            best = deed;
            most = worth;
          }
        }
      }
      return best;
    }

    private int weigh(int spot, int deed, int sayer, int kind) {
      switch (kind) {
        case GREEDY:
          return worthAt(sayer, meaningAt(world.after(spot, deed)));
        case BLIND:
          return worthOfEnd(sayer, dreamAfter(sayer, spot, deed));
        case SPITE:
          int end = endAfter(spot, deed);
          return worthOfEnd(sayer, end) - worthOfEnd(ALL, end);
        case KINDLY:
          return worthOfEnd(ALL, endAfter(spot, deed));
        default:
          return worthOfEnd(sayer, endAfter(spot, deed));
      }
    }

    /** The depth is the count in the spot: at LENGTH there are no options. */
    private int endFrom(int spot) {
      if (spot < 0 || spot >= SPOTS) {
        return world.endByItself(spot);
      }
      if (ends[spot] >>> END_BITS != age) {
        int deed = deedAt(spot);
        int end = deed == NONE ? world.endByItself(spot) : endAfter(spot, deed);
        ends[spot] = age << END_BITS | end;
      }
      return ends[spot] & END_MASK;
    }

    private int endAfter(int spot, int deed) {
      return deed == STOP ? world.endByStop(spot) : endFrom(world.after(spot, deed));
    }

    /**
     * How the talk ends in the mind of a blind one. One row serves all the blind: it is written
     * only where it is the dreamer's turn, and a spot is one person's turn alone.
     */
    private int dreamFrom(int dreamer, int spot) {
      int options = world.options(spot);
      if (spot < 0 || spot >= SPOTS || options == 0) {
        return world.endByItself(spot);
      }
      if (world.sayer(spot) != dreamer) {
        return dreamFrom(dreamer, world.after(spot, leastOf(options)));
      }
      if (dreams[spot] >>> END_BITS != age) {
        int end = dreamAfter(dreamer, spot, bestDeed(spot, options, dreamer, BLIND));
        dreams[spot] = age << END_BITS | end;
      }
      return dreams[spot] & END_MASK;
    }

    private int dreamAfter(int dreamer, int spot, int deed) {
      return deed == STOP ? world.endByStop(spot) : dreamFrom(dreamer, world.after(spot, deed));
    }

    private static int leastOf(int options) {
      return options == 0 ? NONE : Integer.numberOfTrailingZeros(options);
    }
  }

  /** Talks from the beginning in worlds that differ in one thing, which is then put back; and by seeds. */
  private static final class Beginnings {
    private final World world;
    private final Mind mind;
    private int seed = 0;

    Beginnings(World world, Mind mind) {
      this.world = world;
      this.mind = mind;
    }

    int bestTurning(int person) {
      int best = 0;
      int most = mind.worthFromBeginning(person);
      for (int places = 1; places < world.people.size; places++) {
        world.people.turnByOne();
        int worth = mind.worthFromBeginning(person);
        if (worth > most) {
          best = places;
          most = worth;
        }
      }
      world.people.turnByOne();
      return best;
    }

    int bestOrder(int person) {
      int was = world.people.orderDigits();
      int best = NONE;
      int most = 0;
      int codes = 1 << 2 * Math.min(world.people.size, MOST_PEOPLE);
      for (int code = 0; code < codes; code++) {
        int digits = digitsOf(code);
        if (world.people.isOrder(digits)) {
          world.people.putOrder(digits);
          int worth = mind.worthFromBeginning(person);
          if (best == NONE || worth > most) {
            best = digits;
            most = worth;
          }
        }
      }
      world.people.putOrder(was);
      return best;
    }

    /** A code's two highest bits are who speaks first, so that codes rise by who is first, second, .. */
    private int digitsOf(int code) {
      int digits = 0;
      for (int i = 0; i < world.people.size; i++) {
        digits = digits * 10 + (code >> 2 * i & 3);
      }
      return digits;
    }

    int bestWord(int person) {
      int best = NONE;
      int most = mind.worthFromBeginning(person);
      for (int word = 0; word < WORDS; word++) {
        if (world.people.putWord(person, word, true)) {
          int worth = mind.worthFromBeginning(person);
          world.people.putWord(person, word, false);
          if (worth > most) {
            best = word;
            most = worth;
          }
        }
      }
      return best;
    }

    /** How much more the end is worth to one if it had a word, or had it not. */
    int gain(int person, int word, boolean has) {
      if (!world.people.putWord(person, word, has)) {
        return 0;
      }
      int then = mind.worthFromBeginning(person);
      world.people.putWord(person, word, !has);
      return then - mind.worthFromBeginning(person);
    }

    /** How much more the end is worth to one if all blind ones were best ones. */
    int gainOfSight(int person) {
      int now = mind.worthFromBeginning(person);
      int blind = 0;
      for (int i = 0; i < world.people.size; i++) {
        if (world.people.kindOf(i) == BLIND) {
          blind |= 1 << i;
          world.people.putKind(i, BEST);
        }
      }
      int then = mind.worthFromBeginning(person);
      for (int i = 0; i < world.people.size; i++) {
        if ((blind >> i & 1) != 0) {
          world.people.putKind(i, BLIND);
        }
      }
      return then - now;
    }

    int bestKind(int person) {
      int was = world.people.kindOf(person);
      int best = NONE;
      int most = 0;
      for (int kind = 0; kind < KINDS; kind++) {
        world.people.putKind(person, kind);
        int worth = mind.worthFromBeginning(person);
        if (best == NONE || worth > most) {
          best = kind;
          most = worth;
        }
      }
      world.people.putKind(person, was);
      return best;
    }

    int sumOfTalks(int person, int n, int z) {
      mind.renew();
      seed = z;
      int sum = 0;
      for (int i = 0; i < n; i++) {
        sum += mind.worthOfEnd(person, endBySeed());
      }
      return sum;
    }

    private int endBySeed() {
      int spot = 0;
      for (int i = 0; i < MOST_LENGTH; i++) {
        int options = world.options(spot);
        if (options == 0) {
          break;
        }
        int deed = bitInRow(options, draw(Integer.bitCount(options)));
        if (deed == STOP) {
          return world.endByStop(spot);
        }
        spot = world.after(spot, deed);
      }
      return world.endByItself(spot);
    }

    private int draw(int n) {
      seed = seed * 1103515245 + 12345;
      return n > 0 ? ((seed & 0x7fffffff) >> 16) % n : 0;
    }
  }

  /** What one can be sure of, whatever the others do. */
  private static final class Power {
    private final World world;
    private final Mind mind;
    // Two rows by state, of an even count and of an odd one: sets of meanings, and words in all.
    private final long[] sets = new long[2 * STATES];
    private final int[] lengths = new int[2 * STATES];
    private int person = 0;
    private long goodMeanings = 0L;
    private boolean stuckIsGood = false;
    private int goneRules = 0;

    Power(World world, Mind mind) {
      this.world = world;
      this.mind = mind;
    }

    long meaningsWith(int mark) {
      return ~world.grammar.meaningsWithout(mark);
    }

    /** Whether one can have the talk end with one of the good meanings (or stuck, if that is good). */
    boolean ensuresNow(int one, long good, boolean stuck) {
      ask(one, good, stuck);
      int spot = world.talk.spot();
      return world.talk.stopped ? (good >>> meaningAt(spot) & 1L) != 0L : ensuresFrom(spot);
    }

    /** By halves between the least that any end is worth and the most; eight halves are enough. */
    int surestWorth(int one) {
      mind.renew();
      int least = -MOST_LOSS;
      int most = MARKS * MOST_WORTH;
      for (int i = 0; i < 8 && least < most; i++) {
        int middle = Math.floorDiv(least + most + 1, 2);
        if (ensuresNow(one, meaningsWorth(one, middle), -world.loss >= middle)) {
          least = middle;
        } else {
          most = middle - 1;
        }
      }
      return least;
    }

    /** The fewest rules without which one can no more force a mark from the beginning, as bits. */
    int fewestRules(int one, int mark) {
      ask(one, meaningsWith(mark), false);
      if (!ensuresWithout(0)) {
        return 0;
      }
      for (int i = 0; i < world.grammar.size; i++) {
        if (!ensuresWithout(1 << i)) {
          return 1 << i;
        }
      }
      for (int i = 1; i < world.grammar.size; i++) {
        for (int j = 0; j < i; j++) {
          if (!ensuresWithout(1 << i | 1 << j)) {
            return 1 << i | 1 << j;
          }
        }
      }
      return NONE;
    }

    int mostWords(int one) {
      ask(one, 0L, false);
      if (world.talk.stopped) {
        return world.talk.size;
      }
      int spot = world.talk.spot();
      int start = countAt(spot);
      for (int count = Math.max(start, world.length); count >= start; count--) {
        fillLengths(count);
      }
      return lengths[rowOf(start) + stateAt(spot)];
    }

    private void ask(int one, long good, boolean stuck) {
      person = one;
      goodMeanings = good;
      stuckIsGood = stuck;
      goneRules = 0;
    }

    private long meaningsWorth(int one, int least) {
      long set = 0L;
      for (int meaning = 0; meaning < 1 << MARKS; meaning++) {
        if (mind.worthOfEnd(one, endOf(0, false, meaning)) >= least) {
          set |= 1L << meaning;
        }
      }
      return set;
    }

    private boolean ensuresWithout(int rules) {
      goneRules = rules;
      return ensuresFrom(0);
    }

    /** Backward from the last words, for all states and meanings at once. */
    private boolean ensuresFrom(int spot) {
      int start = countAt(spot);
      for (int count = Math.max(start, world.length); count >= start; count--) {
        fillSets(count);
      }
      return (sets[rowOf(start) + stateAt(spot)] >>> meaningAt(spot) & 1L) != 0L;
    }

    private void fillSets(int count) {
      int row = rowOf(count);
      int next = rowOf(count + 1);
      boolean own = world.people.atTurn(count) == person;
      for (int state = 0; state < STATES; state++) {
        sets[row + state] = own ? 0L : -1L;
      }
      Grammar grammar = world.grammar;
      int words = world.wordsAt(count);
      int moving = 0;
      for (int rule = 0; rule < grammar.size && rule < MOST_RULES; rule++) {
        if ((words >> grammar.by[rule] & 1) != 0 && (goneRules >> rule & 1) == 0) {
          int state = grammar.stateFrom(rule);
          long then = grammar.acrossRule(rule, sets[next + grammar.stateTo(rule)]);
          sets[row + state] = own ? sets[row + state] | then : sets[row + state] & then;
          moving |= 1 << state;
        }
      }
      for (int state = 0; state < STATES; state++) {
        sets[row + state] = withEnd(sets[row + state], state, (moving >> state & 1) != 0, own);
      }
    }

    private long withEnd(long set, int state, boolean moves, boolean own) {
      boolean isEnd = world.grammar.isEnd(state);
      if (moves) {
        return !isEnd ? set : own ? set | goodMeanings : set & goodMeanings;
      }
      return isEnd ? goodMeanings : stuckIsGood ? -1L : 0L;
    }

    private void fillLengths(int count) {
      int row = rowOf(count);
      int next = rowOf(count + 1);
      boolean own = world.people.atTurn(count) == person;
      for (int state = 0; state < STATES; state++) {
        lengths[row + state] = own ? 0 : MOST_LENGTH;
      }
      Grammar grammar = world.grammar;
      int words = world.wordsAt(count);
      int moving = 0;
      for (int rule = 0; rule < grammar.size && rule < MOST_RULES; rule++) {
        if ((words >> grammar.by[rule] & 1) != 0) {
          int state = grammar.stateFrom(rule);
          int then = lengths[next + grammar.stateTo(rule)];
          lengths[row + state] = own ? Math.max(lengths[row + state], then) : Math.min(lengths[row + state], then);
          moving |= 1 << state;
        }
      }
      for (int state = 0; state < STATES; state++) {
        boolean moves = (moving >> state & 1) != 0;
        boolean othersMayStop = !own && grammar.isEnd(state);
        lengths[row + state] = moves && !othersMayStop ? lengths[row + state] : count;
      }
    }
  }

  /** All ends that the talk can come to, whatever all do. */
  private static final class Reach {
    private final World world;
    // Two rows by state, of an even count and of an odd one: the meanings that can be there.
    private final long[] sets = new long[2 * STATES];
    private long meanings = 0L;
    private boolean stuck = false;

    Reach(World world) {
      this.world = world;
    }

    void look() {
      int spot = world.talk.spot();
      meanings = 0L;
      stuck = false;
      if (world.talk.stopped) {
        meanings = 1L << meaningAt(spot);
        return;
      }
      int start = countAt(spot);
      for (int i = 0; i < 2 * STATES; i++) {
        sets[i] = 0L;
      }
      sets[rowOf(start) + stateAt(spot)] = 1L << meaningAt(spot);
      int last = Math.max(start, world.length);
      for (int count = start; count <= last; count++) {
        goOn(count);
      }
    }

    private void goOn(int count) {
      int row = rowOf(count);
      int next = rowOf(count + 1);
      for (int state = 0; state < STATES; state++) {
        sets[next + state] = 0L;
      }
      Grammar grammar = world.grammar;
      int words = world.wordsAt(count);
      for (int rule = 0; rule < grammar.size && rule < MOST_RULES; rule++) {
        if ((words >> grammar.by[rule] & 1) != 0) {
          sets[next + grammar.stateTo(rule)] |= grammar.acrossRule(rule, sets[row + grammar.stateFrom(rule)]);
        }
      }
      for (int state = 0; state < STATES; state++) {
        if (grammar.isEnd(state)) {
          meanings |= sets[row + state];
        } else if (sets[row + state] != 0L && (words & grammar.wordsFrom(state)) == 0) {
          stuck = true;
        }
      }
    }
  }
}
