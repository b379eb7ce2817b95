import java.io.IOException;
import java.nio.file.Files;
import java.nio.file.Path;

/** Counts answers that are not due, and tells them. */
final class Due {
  private static final Path DOCUMENT = Path.of("../shared/DOC.md");
  private static final String INDEX = "java.lang.IndexOutOfBoundsException";
  private static final String ARGUMENT = "java.lang.IllegalArgumentException";
  private static final String STATE = "java.lang.IllegalStateException";

  interface Call {
    void go();
  }

  private final String suite;
  private String promise = "";
  private String document;
  private int wrong;
  private int all;

  Due(String suite) {
    this.suite = suite;
  }

  void promise(int number) {
    promise = "promise " + number + ": ";
  }

  /** A sentence of that promise, word for word: the answers that follow are due by it. */
  void says(int number, String sentence) {
    quote("promise " + number, "## Promise " + number + ":", "## ", sentence);
  }

  /** A sentence of those terms, word for word. */
  void term(int number, String sentence) {
    quote("terms " + number, "==== " + number + ".", number == 7 ? "## " : "====", sentence);
  }

  private void quote(String where, String head, String next, String sentence) {
    all++;
    promise = where + ", \"" + sentence + "\": ";
    String text = document();
    int from = text.indexOf(head);
    int to = from < 0 ? -1 : text.indexOf(next, from + head.length());
    if (from < 0 || !text.substring(from, to < 0 ? text.length() : to).contains(sentence)) tell("the document does not say so");
  }

  /** The document in one line, with one blank between words, and without what marks code. */
  private String document() {
    if (document != null) return document;
    try {
      document = Files.readString(DOCUMENT).replace("`", "").replaceAll("\\s+", " ");
    } catch (IOException e) {
      throw new IllegalStateException("no document at " + DOCUMENT, e);
    }
    return document;
  }

  void is(String what, long got, long want) {
    all++;
    if (got != want) tell(what + " answered " + got + ", due is " + want);
  }

  void is(String what, boolean got, boolean want) {
    is(what, got ? 1 : 0, want ? 1 : 0);
  }

  void index(String what, Call call) {
    thrown(what, call, INDEX);
  }

  void argument(String what, Call call) {
    thrown(what, call, ARGUMENT);
  }

  void state(String what, Call call) {
    thrown(what, call, STATE);
  }

  private void thrown(String what, Call call, String want) {
    all++;
    String got = "nothing";
    try {
      call.go();
    } catch (RuntimeException e) {
      got = e.getClass().getName();
    }
    if (!got.equals(want)) tell(what + " threw " + got + ", due is " + want);
  }

  private void tell(String what) {
    wrong++;
    System.out.println(suite + ": " + promise + what);
  }

  /** Ends the program with 1 if something was wrong. */
  void end() {
    System.out.println(suite + ": " + all + " answers, " + wrong + " not as due");
    if (wrong > 0) System.exit(1);
  }
}
