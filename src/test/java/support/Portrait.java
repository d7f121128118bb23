/** What an object answers, in one text: what only looks, and what shows by a change alone. */
final class Portrait {
  /** So few, lest an object be asked more than 512 times: the talks that are looked at are shorter. */
  private static final int MOST_BACK = 4;
  private final EverySecondWord x;
  private final StringBuilder text = new StringBuilder();

  private Portrait(EverySecondWord x) {
    this.x = x;
  }

  /** Nothing is changed and nothing refused by it. */
  static String of(EverySecondWord x) {
    Portrait p = new Portrait(x);
    p.lookAtWhatThereIs();
    p.lookAtTheTalk();
    p.lookAhead();
    return p.text.toString();
  }

  /** With what can be read, taken back and restored only once: the object is of no use then. */
  static String whole(EverySecondWord x) {
    Portrait p = new Portrait(x);
    p.lookAtWhatThereIs();
    p.lookAtTheTalk();
    p.lookAhead();
    p.ask("judge", x.judge());
    p.takeBackAll();
    p.ask("tongue", x.tongue());
    p.lookAtWhatThereIs();
    p.ask("restore", x.restore());
    p.lookAtWhatThereIs();
    p.takeBackAll();
    return p.text.toString();
  }

  private void ask(String call, int answer) {
    text.append(call).append('=').append(answer).append(' ');
  }

  private void lookAtWhatThereIs() {
    for (int i = 0; i <= 6; i++) {
      ask("count" + i, x.count(i));
    }
    for (int rule = 0; rule < x.count(0); rule++) {
      for (int what = 0; what <= 3; what++) {
        ask("rule" + rule + what, x.rule(rule, what));
      }
    }
    for (int state = 0; state < 8 && x.count(1) > 0; state++) {
      ask("end" + state, x.end(state));
    }
    for (int person = 0; person < x.count(2); person++) {
      for (int what = 0; what <= 2; what++) {
        ask("person" + person + what, x.person(person, what));
      }
      for (int mark = 0; mark < 6; mark++) {
        ask("worth" + person + mark, x.worth(person, mark));
      }
    }
  }

  private void lookAtTheTalk() {
    for (int what = 0; what <= 6; what++) {
      ask("talk" + what, x.talk(what));
    }
  }

  private void lookAhead() {
    ask("does", x.does());
    for (int person = 0; person < x.count(2); person++) {
      ask("value" + person, x.value(person));
      ask("forces" + person, x.forces(person, 0));
      ask("keeps" + person, x.keeps(person, 0));
      ask("sure" + person, x.sure(person));
      ask("holds" + person, x.holds(person));
      ask("turns" + person, x.turns(person));
      ask("as" + person, x.as(person));
      ask("kinds" + person, x.kinds(person));
    }
  }

  private void takeBackAll() {
    for (int i = 0; i < MOST_BACK; i++) {
      ask("back", x.back());
      lookAtTheTalk();
    }
  }
}
