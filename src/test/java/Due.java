/** Counts answers that are not due, and tells them. */
final class Due {
  private static final String INDEX = "java.lang.IndexOutOfBoundsException";
  private static final String ARGUMENT = "java.lang.IllegalArgumentException";
  private static final String STATE = "java.lang.IllegalStateException";

  interface Call {
    void go();
  }

  private final String suite;
  private String promise = "";
  private int wrong;
  private int all;

  Due(String suite) {
    this.suite = suite;
  }

  void promise(int number) {
    promise = "promise " + number + ": ";
  }

  void is(String what, long got, long want) {
    all++;
    if (got != want) tell(what + " answered " + got + ", due is " + want);
  }

  void is(String what, boolean got, boolean want) {
    is(what, got ? 1 : 0, want ? 1 : 0);
  }

  void index(String what, Call call) {
    thrown(what, call, INDEX);
  }

  void argument(String what, Call call) {
    thrown(what, call, ARGUMENT);
  }

  void state(String what, Call call) {
    thrown(what, call, STATE);
  }

  private void thrown(String what, Call call, String want) {
    all++;
    String got = "nothing";
    try {
      call.go();
    } catch (RuntimeException e) {
      got = e.getClass().getName();
    }
    if (!got.equals(want)) tell(what + " threw " + got + ", due is " + want);
  }

  private void tell(String what) {
    wrong++;
    System.out.println(suite + ": " + promise + what);
  }

  /** Ends the program with 1 if something was wrong. */
  void end() {
    System.out.println(suite + ": " + all + " answers, " + wrong + " not as due");
    if (wrong > 0) System.exit(1);
  }
}
