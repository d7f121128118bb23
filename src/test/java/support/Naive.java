import java.util.ArrayList;
import java.util.HashMap;
import java.util.List;
import java.util.Map;
import java.util.TreeSet;
import java.util.function.Predicate;
import java.util.regex.Matcher;
import java.util.regex.Pattern;

/**
 * The document said again in the plainest way (lists, sets, copies of worlds, whole trees of talks),
 * with nothing of the program in it: what the program answers is held against it.
 */
public final class Naive {
  private static final Pattern TEXT = Pattern.compile(
      "(?:r[0-9][a-h][0-9][A-F]?;|e[0-9];|p[0-9]a?b?c?d?e?f?g?h?;|v[0-9][A-F][+-][0-9];|l[0-9];)+");

  private record Rule(int from, int word, int to, int mark) {
  }

  private record Spot(int count, int state, TreeSet<Integer> marks) {
  }

  private record End(TreeSet<Integer> marks, boolean stuck, int count) {
  }

  private static final class Person {
    int kind;
    TreeSet<Integer> words = new TreeSet<>();
    int[] worth = new int[6];
  }

  /** All that the image holds. */
  private static final class World {
    List<Rule> rules = new ArrayList<>();
    TreeSet<Integer> ends = new TreeSet<>();
    List<Person> people = new ArrayList<>();
    List<Integer> order = new ArrayList<>();
    int length = 6;
    int loss = 5;
    List<Integer> said = new ArrayList<>();
    boolean stopped = false;
    Map<Spot, End> endMemo = new HashMap<>();
    Map<Integer, Map<Spot, End>> dreamMemo = new HashMap<>();

    World copy() {
      World w = new World();
      w.rules.addAll(rules);
      w.ends.addAll(ends);
      for (Person p : people) {
        Person q = new Person();
        q.kind = p.kind;
        q.words.addAll(p.words);
        q.worth = p.worth.clone();
        w.people.add(q);
      }
      w.order.addAll(order);
      w.length = length;
      w.loss = loss;
      w.said.addAll(said);
      w.stopped = stopped;
      return w;
    }

    Rule rule(int state, int word) {
      for (Rule r : rules) {
        if (r.from == state && r.word == word) {
          return r;
        }
      }
      return null;
    }

    int sayer(int count) {
      return people.isEmpty() ? -9 : order.get(count % people.size());
    }

    List<Integer> words(Spot s) {
      List<Integer> may = new ArrayList<>();
      if (!people.isEmpty() && s.count < length) {
        for (int w : people.get(sayer(s.count)).words) {
          if (rule(s.state, w) != null) {
            may.add(w);
          }
        }
      }
      return may;
    }

    List<Integer> deeds(Spot s) {
      List<Integer> may = words(s);
      if (!may.isEmpty() && ends.contains(s.state)) {
        may.add(8);
      }
      return may;
    }

    Spot after(Spot s, int word) {
      Rule r = rule(s.state, word);
      TreeSet<Integer> marks = new TreeSet<>(s.marks);
      if (r.mark >= 0 && !marks.remove(r.mark)) {
        marks.add(r.mark);
      }
      return new Spot(s.count + 1, r.to, marks);
    }

    Spot spot(int words) {
      Spot s = new Spot(0, 0, new TreeSet<>());
      for (int i = 0; i < words; i++) {
        s = after(s, said.get(i));
      }
      return s;
    }

    Spot now() {
      return spot(said.size());
    }

    End rest(Spot s) {
      return new End(s.marks, !ends.contains(s.state), s.count);
    }

    End byStop(Spot s) {
      return new End(s.marks, false, s.count);
    }

    int worthOf(int person, TreeSet<Integer> marks) {
      int sum = 0;
      for (int m : marks) {
        sum += people.get(person).worth[m];
      }
      return sum;
    }

    int worth(int person, End e) {
      return e.stuck ? -loss : worthOf(person, e.marks);
    }

    int worthOfAllBut(int person, End e) {
      int sum = 0;
      for (int p = 0; p < people.size(); p++) {
        sum += p == person ? 0 : worth(p, e);
      }
      return sum;
    }

    int deed(Spot s) {
      List<Integer> may = deeds(s);
      if (may.isEmpty()) {
        return -9;
      }
      int who = sayer(s.count);
      int kind = people.get(who).kind;
      if (kind == 1) {
        return may.get(0);
      }
      if (kind == 5) {
        return ends.contains(s.state) ? 8 : may.get(0);
      }
      int best = -9;
      long most = Long.MIN_VALUE;
      for (int d : may) {
        long v;
        if (kind == 6) {
          v = worthOf(who, d == 8 ? s.marks : after(s, d).marks);
        } else if (kind == 4) {
          v = worth(who, d == 8 ? byStop(s) : dream(who, after(s, d)));
        } else {
          End e = d == 8 ? byStop(s) : end(after(s, d));
          v = kind == 0 ? worth(who, e) : kind == 2 ? -worthOfAllBut(who, e) : worthOfAllBut(-1, e);
        }
        if (v > most) {
          most = v;
          best = d;
        }
      }
      return best;
    }

    End end(Spot s) {
      End known = endMemo.get(s);
      if (known == null) {
        int d = deed(s);
        known = d == -9 ? rest(s) : d == 8 ? byStop(s) : end(after(s, d));
        endMemo.put(s, known);
      }
      return known;
    }

    End dream(int who, Spot s) {
      Map<Spot, End> memo = dreamMemo.computeIfAbsent(who, k -> new HashMap<>());
      End known = memo.get(s);
      if (known != null) {
        return known;
      }
      List<Integer> may = deeds(s);
      End best = null;
      if (may.isEmpty()) {
        best = rest(s);
      } else if (sayer(s.count) != who) {
        best = dream(who, after(s, may.get(0)));
      } else {
        for (int d : may) {
          End e = d == 8 ? byStop(s) : dream(who, after(s, d));
          if (best == null || worth(who, e) > worth(who, best)) {
            best = e;
          }
        }
      }
      memo.put(s, best);
      return best;
    }

    End endNow() {
      return stopped ? byStop(now()) : end(now());
    }

    int fromBeginning(int person) {
      return worth(person, end(spot(0)));
    }

    boolean sure(int person, Spot s, Predicate<End> good, Map<Spot, Boolean> memo) {
      Boolean known = memo.get(s);
      if (known != null) {
        return known;
      }
      List<Integer> may = deeds(s);
      boolean answer;
      if (may.isEmpty()) {
        answer = good.test(rest(s));
      } else {
        boolean own = sayer(s.count) == person;
        answer = !own;
        for (int d : may) {
          boolean then = d == 8 ? good.test(byStop(s)) : sure(person, after(s, d), good, memo);
          answer = own ? answer || then : answer && then;
        }
      }
      memo.put(s, answer);
      return answer;
    }

    boolean sureNow(int person, Predicate<End> good) {
      return stopped ? good.test(byStop(now())) : sure(person, now(), good, new HashMap<>());
    }

    void allEnds(Spot s, List<End> into, TreeSet<String> seen) {
      if (!seen.add(s.toString())) {
        return;
      }
      List<Integer> may = deeds(s);
      if (may.isEmpty()) {
        into.add(rest(s));
      }
      for (int d : may) {
        if (d == 8) {
          into.add(byStop(s));
        } else {
          allEnds(after(s, d), into, seen);
        }
      }
    }

    List<End> allEndsNow() {
      List<End> list = new ArrayList<>();
      if (stopped) {
        list.add(byStop(now()));
      } else {
        allEnds(now(), list, new TreeSet<>());
      }
      return list;
    }
  }

  private World w = new World();
  private World image = null;
  private StringBuilder letters = new StringBuilder();
  private List<Integer> row = new ArrayList<>();
  private final int[] refusals = new int[7];

  private int no(int number) {
    refusals[-number]++;
    return number;
  }

  private int noWorth(int number) {
    return 1000000000 - no(number);
  }

  private boolean noPerson(int p) {
    return p < 0 || p >= w.people.size();
  }

  private static boolean not(int v, int below) {
    return v < 0 || v >= below;
  }

  private static int bits(Iterable<Integer> set) {
    int b = 0;
    for (int i : set) {
      b += 1 << i;
    }
    return b;
  }

  private static int digits(List<Integer> order) {
    int d = 0;
    for (int i = order.size() - 1; i >= 0; i--) {
      d = d * 10 + order.get(i);
    }
    return d;
  }

  private static List<List<Integer>> orders(int n) {
    List<List<Integer>> all = new ArrayList<>();
    if (n == 0) {
      all.add(new ArrayList<>());
      return all;
    }
    fill(all, new ArrayList<>(), n);
    return all;
  }

  private static void fill(List<List<Integer>> all, List<Integer> begun, int n) {
    if (begun.size() == n) {
      all.add(new ArrayList<>(begun));
    }
    for (int i = 0; i < n; i++) {
      if (!begun.contains(i)) {
        begun.add(i);
        fill(all, begun, n);
        begun.remove(begun.size() - 1);
      }
    }
  }

  public int feed(int letter) {
    if (letter < 0) {
      return no(-4);
    }
    if (letter > 255 || letters.length() == 64) {
      return no(-6);
    }
    letters.append((char) letter);
    return letters.length();
  }

  public int tongue() {
    if (!w.said.isEmpty()) {
      return no(-3);
    }
    String text = letters.toString();
    letters = new StringBuilder();
    for (int k = 0; k <= text.length(); k++) {
      Matcher m = TEXT.matcher(text.substring(0, k));
      boolean whole = m.matches();
      if (!whole && !m.hitEnd()) {
        return -1000 - (k - 1);
      }
      if (!whole && k == text.length()) {
        return -1000 - k;
      }
    }
    World trial = w.copy();
    int place = 0;
    int n = 0;
    for (String s : text.split(";")) {
      if (!apply(trial, s)) {
        return -2000 - place;
      }
      place += s.length() + 1;
      n++;
    }
    w = trial;
    return n;
  }

  private static boolean apply(World t, String s) {
    int digit = s.charAt(1) - '0';
    switch (s.charAt(0)) {
      case 'r': {
        int word = s.charAt(2) - 'a';
        int to = s.charAt(3) - '0';
        if (digit > 7 || to > 7 || t.rules.size() == 24 || t.rule(digit, word) != null) {
          return false;
        }
        t.rules.add(new Rule(digit, word, to, s.length() == 5 ? s.charAt(4) - 'A' : -9));
        return true;
      }
      case 'e':
        return digit <= 7 && t.ends.add(digit);
      case 'p': {
        if (digit > 6 || t.people.size() == 4) {
          return false;
        }
        Person p = new Person();
        p.kind = digit;
        for (char c : s.substring(2).toCharArray()) {
          p.words.add(c - 'a');
        }
        t.order.add(t.people.size());
        t.people.add(p);
        return true;
      }
      case 'v': {
        if (digit >= t.people.size()) {
          return false;
        }
        int v = s.charAt(4) - '0';
        t.people.get(digit).worth[s.charAt(2) - 'A'] = s.charAt(3) == '-' ? -v : v;
        return true;
      }
      default:
        if (digit < 1 || digit > 8) {
          return false;
        }
        t.length = digit;
        return true;
    }
  }

  public int rule(int rule, int what) {
    if (not(rule, w.rules.size())) {
      return no(-1);
    }
    if (not(what, 4)) {
      return no(-2);
    }
    Rule r = w.rules.get(rule);
    return new int[] {r.from, r.word, r.to, r.mark}[what];
  }

  public int end(int state) {
    return not(state, 8) ? no(-1) : w.ends.contains(state) ? 1 : 0;
  }

  public int person(int person, int what) {
    if (noPerson(person)) {
      return no(-1);
    }
    if (not(what, 3)) {
      return no(-2);
    }
    Person p = w.people.get(person);
    return new int[] {p.kind, bits(p.words), w.order.indexOf(person)}[what];
  }

  public int worth(int person, int mark) {
    return noPerson(person) || not(mark, 6) ? noWorth(-1) : w.people.get(person).worth[mark];
  }

  public int values(int person, int mark, int v) {
    if (noPerson(person) || not(mark, 6)) {
      return noWorth(-1);
    }
    if (v < -9) {
      return noWorth(-4);
    }
    if (v > 9) {
      return noWorth(-6);
    }
    int was = w.people.get(person).worth[mark];
    w = w.copy();
    w.people.get(person).worth[mark] = v;
    return was;
  }

  public int kind(int person, int kind) {
    if (noPerson(person) || not(kind, 7)) {
      return no(-1);
    }
    w = w.copy();
    int was = w.people.get(person).kind;
    w.people.get(person).kind = kind;
    return was;
  }

  public int word(int person, int word, boolean has) {
    if (noPerson(person) || not(word, 8)) {
      return no(-1);
    }
    w = w.copy();
    TreeSet<Integer> words = w.people.get(person).words;
    return (has ? words.add(word) : words.remove(word)) ? 1 : 0;
  }

  public int set(int what, int v) {
    if (not(what, 2)) {
      return no(-2);
    }
    if (v < 1 - what) {
      return no(-4);
    }
    if (v > (what == 0 ? 8 : 99)) {
      return no(-6);
    }
    w = w.copy();
    int was = what == 0 ? w.length : w.loss;
    if (what == 0) {
      w.length = v;
    } else {
      w.loss = v;
    }
    return was;
  }

  public int order(int digits) {
    for (List<Integer> o : orders(w.people.size())) {
      if (digits(o) == digits) {
        if (!w.said.isEmpty()) {
          return no(-3);
        }
        w = w.copy();
        int was = digits(w.order);
        w.order = o;
        return was;
      }
    }
    return no(-1);
  }

  public int say(int word) {
    if (not(word, 8)) {
      return no(-1);
    }
    if (w.stopped || !w.words(w.now()).contains(word)) {
      return no(-3);
    }
    w.said.add(word);
    return w.now().state;
  }

  public int stop() {
    if (w.stopped || !w.deeds(w.now()).contains(8)) {
      return no(-3);
    }
    w.stopped = true;
    return bits(w.now().marks);
  }

  public int back() {
    if (w.stopped) {
      w.stopped = false;
    } else if (w.said.isEmpty()) {
      return no(-3);
    } else {
      w.said.remove(w.said.size() - 1);
    }
    return w.said.size();
  }

  public int anew() {
    int was = w.said.size();
    w.said.clear();
    w.stopped = false;
    return was;
  }

  public int talk(int what) {
    if (not(what, 7)) {
      return no(-2);
    }
    Spot s = w.now();
    List<Integer> may = w.stopped ? new ArrayList<>() : w.deeds(s);
    boolean stop = may.remove((Integer) 8);
    int over = w.stopped ? 1 : !may.isEmpty() ? 0 : w.ends.contains(s.state) ? 1 : 2;
    int turn = over == 0 ? w.sayer(s.count) : -9;
    return new int[] {s.state, bits(s.marks), s.count, over, turn, bits(may), stop ? 1 : 0}[what];
  }

  public int does() {
    return w.stopped ? -9 : w.deed(w.now());
  }

  public int goes() {
    int d = does();
    if (d == -9) {
      return no(-3);
    }
    if (d == 8) {
      w.stopped = true;
    } else {
      w.said.add(d);
    }
    return d;
  }

  public int ends(int what) {
    if (not(what, 3)) {
      return no(-2);
    }
    if (w.people.isEmpty()) {
      return no(-3);
    }
    End e = w.endNow();
    return new int[] {bits(e.marks), e.stuck ? 1 : 0, e.count}[what];
  }

  public int value(int person) {
    return noPerson(person) ? noWorth(-1) : w.worth(person, w.endNow());
  }

  public int forces(int person, int mark) {
    if (noPerson(person) || not(mark, 6)) {
      return no(-1);
    }
    return w.sureNow(person, e -> !e.stuck && e.marks.contains(mark)) ? 1 : 0;
  }

  public int keeps(int person, int mark) {
    if (noPerson(person) || not(mark, 6)) {
      return no(-1);
    }
    return w.sureNow(person, e -> e.stuck || !e.marks.contains(mark)) ? 1 : 0;
  }

  public int sticks(int person) {
    return noPerson(person) ? no(-1) : w.sureNow(person, e -> e.stuck) ? 1 : 0;
  }

  public int holds(int person) {
    if (noPerson(person)) {
      return no(-1);
    }
    int most = w.said.size();
    for (int n = most; n <= 8; n++) {
      int words = n;
      most = w.sureNow(person, e -> e.count >= words) ? n : most;
    }
    return most;
  }

  public int sure(int person) {
    if (noPerson(person)) {
      return noWorth(-1);
    }
    int v = 60;
    int[] least = {v};
    while (!w.sureNow(person, e -> w.worth(person, e) >= least[0])) {
      least[0]--;
    }
    return least[0];
  }

  public int meanings(int i) {
    if (i < -1) {
      return no(-4);
    }
    if (w.people.isEmpty()) {
      return no(-3);
    }
    TreeSet<Integer> all = new TreeSet<>();
    for (End e : w.allEndsNow()) {
      if (!e.stuck) {
        all.add(bits(e.marks));
      }
    }
    return i == -1 ? all.size() : i < all.size() ? new ArrayList<>(all).get(i) : -9;
  }

  public int canStick() {
    if (w.people.isEmpty()) {
      return no(-3);
    }
    return w.allEndsNow().stream().anyMatch(End::stuck) ? 1 : 0;
  }

  private int ordered(int person, List<Integer> order) {
    World v = w.copy();
    v.order = order;
    return v.fromBeginning(person);
  }

  public int begins(int person) {
    if (noPerson(person)) {
      return no(-1);
    }
    int n = w.people.size();
    int best = -1;
    int most = 0;
    for (int k = 0; k < n; k++) {
      List<Integer> turned = new ArrayList<>(w.order.subList(k, n));
      turned.addAll(w.order.subList(0, k));
      int v = ordered(person, turned);
      if (best < 0 || v > most) {
        best = k;
        most = v;
      }
    }
    return best;
  }

  public int turns(int person) {
    if (noPerson(person)) {
      return no(-1);
    }
    int best = -1;
    int most = 0;
    for (List<Integer> o : orders(w.people.size())) {
      int v = ordered(person, o);
      if (best < 0 || v > most) {
        best = digits(o);
        most = v;
      }
    }
    return best;
  }

  private int withWord(int person, int word, boolean has) {
    World v = w.copy();
    if (has) {
      v.people.get(person).words.add(word);
    } else {
      v.people.get(person).words.remove(word);
    }
    return v.fromBeginning(person);
  }

  public int buys(int person) {
    if (noPerson(person)) {
      return no(-1);
    }
    int most = w.copy().fromBeginning(person);
    int best = -9;
    for (int word = 0; word < 8; word++) {
      int v = withWord(person, word, true);
      if (!w.people.get(person).words.contains(word) && v > most) {
        most = v;
        best = word;
      }
    }
    return best;
  }

  public int price(int person, int word) {
    if (noPerson(person) || not(word, 8)) {
      return noWorth(-1);
    }
    return withWord(person, word, true) - w.copy().fromBeginning(person);
  }

  public int lacks(int person, int word) {
    if (noPerson(person) || not(word, 8)) {
      return noWorth(-1);
    }
    return withWord(person, word, false) - w.copy().fromBeginning(person);
  }

  public int knows(int person) {
    if (noPerson(person)) {
      return noWorth(-1);
    }
    World v = w.copy();
    for (Person p : v.people) {
      p.kind = p.kind == 4 ? 0 : p.kind;
    }
    return v.fromBeginning(person) - w.copy().fromBeginning(person);
  }

  public int as(int person) {
    if (noPerson(person)) {
      return no(-1);
    }
    int best = -1;
    int most = 0;
    for (int k = 0; k < 7; k++) {
      World v = w.copy();
      v.people.get(person).kind = k;
      int worth = v.fromBeginning(person);
      if (best < 0 || worth > most) {
        best = k;
        most = worth;
      }
    }
    return best;
  }

  private boolean forcedWithout(int person, int mark, int gone) {
    World v = w.copy();
    v.rules.clear();
    for (int i = 0; i < w.rules.size(); i++) {
      if ((gone >> i & 1) == 0) {
        v.rules.add(w.rules.get(i));
      }
    }
    return v.sure(person, v.spot(0), e -> !e.stuck && e.marks.contains(mark), new HashMap<>());
  }

  public int least(int person, int mark) {
    if (noPerson(person) || not(mark, 6)) {
      return no(-1);
    }
    for (int size = 0; size <= 2; size++) {
      TreeSet<Integer> sets = new TreeSet<>();
      for (int i = 0; i < w.rules.size(); i++) {
        for (int j = 0; j < w.rules.size(); j++) {
          int set = size == 0 ? 0 : size == 1 ? 1 << i : 1 << i | 1 << j;
          if (Integer.bitCount(set) == size) {
            sets.add(set);
          }
        }
      }
      if (size == 0) {
        sets.add(0);
      }
      for (int set : sets) {
        if (!forcedWithout(person, mark, set)) {
          return set;
        }
      }
    }
    return -9;
  }

  public int kinds(int person) {
    if (noPerson(person)) {
      return no(-1);
    }
    int fitting = 0;
    for (int k = 0; k < 7; k++) {
      World v = w.copy();
      v.people.get(person).kind = k;
      boolean fits = true;
      for (int i = 0; i < v.said.size(); i++) {
        fits &= v.sayer(i) != person || v.deed(v.spot(i)) == v.said.get(i);
      }
      if (v.stopped) {
        fits &= v.sayer(v.said.size()) != person || v.deed(v.now()) == 8;
      }
      fitting += fits ? 1 << k : 0;
    }
    return fitting;
  }

  public int row(int word) {
    if (not(word, 8)) {
      return no(-1);
    }
    if (row.size() == 8) {
      return no(-6);
    }
    row.add(word);
    return row.size();
  }

  public int judge() {
    if (w.people.isEmpty()) {
      return no(-3);
    }
    List<Integer> words = row;
    row = new ArrayList<>();
    Spot s = w.spot(0);
    for (int i = 0; i < words.size(); i++) {
      if (!w.words(s).contains(words.get(i))) {
        return i;
      }
      s = w.after(s, words.get(i));
    }
    return -9;
  }

  public int seeds(int person, int n, int z) {
    if (noPerson(person)) {
      return noWorth(-1);
    }
    if (n < 1) {
      return noWorth(-4);
    }
    if (n > 20) {
      return noWorth(-6);
    }
    int seed = z;
    int sum = 0;
    for (int i = 0; i < n; i++) {
      Spot s = w.spot(0);
      End e = null;
      while (e == null) {
        List<Integer> may = w.deeds(s);
        if (may.isEmpty()) {
          e = w.rest(s);
        } else {
          seed = (int) (seed * 1103515245L + 12345L);
          int d = may.get((int) ((seed & 0x7fffffffL) / 65536 % may.size()));
          if (d == 8) {
            e = w.byStop(s);
          } else {
            s = w.after(s, d);
          }
        }
      }
      sum += w.worth(person, e);
    }
    return sum;
  }

  public int image() {
    image = w.copy();
    return w.said.size();
  }

  public int restore() {
    if (image == null) {
      return no(-3);
    }
    w = image.copy();
    return w.said.size();
  }

  public int count(int what) {
    if (what >= 11 && what <= 16) {
      return refusals[what - 10];
    }
    int[] all = {w.rules.size(), w.ends.size(), w.people.size(), w.length, w.loss, letters.length(), row.size()};
    return not(what, all.length) ? -9 : all[what];
  }
}
