/** Looks whether a call that is refused leaves a colony as it is: beside a twin on which it is not called. */
final class Twins {
  private static final int SECTIONS = 16;
  private static final int PEOPLE = 6;

  interface Maker {
    SettlerColony make();
  }

  interface Call {
    int on(SettlerColony x);
  }

  private final Due due;
  private final Maker maker;

  Twins(Due due, Maker maker) {
    this.due = due;
    this.maker = maker;
  }

  /** The call answers that, and does nothing. */
  void refused(String what, int answer, Call call) {
    SettlerColony x = maker.make();
    due.is(what, call.on(x), answer);
    alike(what, x);
  }

  void index(String what, Call call) {
    SettlerColony x = maker.make();
    due.index(what, () -> call.on(x));
    alike(what, x);
  }

  void argument(String what, Call call) {
    SettlerColony x = maker.make();
    due.argument(what, () -> call.on(x));
    alike(what, x);
  }

  void state(String what, Call call) {
    SettlerColony x = maker.make();
    due.state(what, () -> call.on(x));
    alike(what, x);
  }

  /** Compares with a twin in some 350 calls, the last of them a WEEK later. */
  private void alike(String what, SettlerColony x) {
    SettlerColony y = maker.make();
    String does = what + " does nothing: ";
    counts(does, x, y);
    land(does, x, y);
    people(does, x, y);
    lists(does, x, y);
    image(does, x, y);
    if (x.count(0) == 1000) return;
    x.week(1);
    y.week(1);
    counts(does + "a week later, ", x, y);
  }

  private void counts(String does, SettlerColony x, SettlerColony y) {
    for (int k = 0; k < 15; k++) due.is(does + "count(" + k + ")", x.count(k), y.count(k));
    due.is(does + "fault", x.fault(), y.fault());
    due.is(does + "check", x.check(), y.check());
    due.is(does + "quoted", x.quoted(), y.quoted());
    due.is(does + "passages", x.passages(), y.passages());
  }

  private void land(String does, SettlerColony x, SettlerColony y) {
    for (int zone = 0; zone < 4; zone++) {
      due.is(does + "seen", x.seen(zone), y.seen(zone));
      for (int week = 0; week < 1000; week += 333) due.is(does + "fell", x.fell(zone, week), y.fell(zone, week));
    }
    for (int s = 0; s < SECTIONS; s++) {
      due.is(does + "promise(" + s + ")", x.promise(s), y.promise(s));
      for (int k = 2; k < 7; k++) due.is(does + "section(" + s + ", " + k + ")", x.section(s, k), y.section(s, k));
    }
  }

  private void people(String does, SettlerColony x, SettlerColony y) {
    for (int p = 0; p < PEOPLE && p < y.count(1); p++) {
      for (int k = 3; k < 9; k++) due.is(does + "person(" + p + ", " + k + ")", x.person(p, k), y.person(p, k));
    }
    for (int acre = 0; acre < 12; acre++) due.is(does + "acre", x.acre(acre), y.acre(acre));
  }

  private void lists(String does, SettlerColony x, SettlerColony y) {
    for (int p = 0; p < y.count(10); p++) {
      for (int k = 0; k < 3; k++) due.is(does + "where", x.where(p, k), y.where(p, k));
    }
    for (int law = 0; law < y.count(7); law++) due.is(does + "force", x.force(law), y.force(law));
    for (int name = 0; name < 8; name++) due.is(does + "means", x.means(name, -1), y.means(name, -1));
    for (int bill = 0; bill < y.count(9); bill++) due.is(does + "billed", x.billed(bill), y.billed(bill));
  }

  private void image(String does, SettlerColony x, SettlerColony y) {
    due.is(does + "number", x.number(0), y.number(0));
    int numbers = y.image();
    due.is(does + "image", x.image(), numbers);
    for (int k = 0; k < numbers && k < 96 + PEOPLE; k++) due.is(does + "number", x.number(k), y.number(k));
  }
}
