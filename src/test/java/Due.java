/** Counts and prints the calls whose answer is not the one that is due. */
final class Due {
  private static int asked = 0;
  private static int wrong = 0;

  private Due() {}

  static void due(String call, long got, long want) {
    asked++;
    if (got == want) return;
    wrong++;
    System.out.println(call + " answered " + got + ", due is " + want);
  }

  /** Sends a text letter by letter, and makes a line of it. */
  static int tell(StopsByLetters x, String text) {
    send(x, text);
    return x.line();
  }

  static void send(StopsByLetters x, String text) {
    for (int i = 0; i < text.length(); i++) x.letter(text.charAt(i));
  }

  /** A new object that is told a text, a line for each statement: a text may have more letters than a line. */
  static StopsByLetters with(String text) {
    StopsByLetters x = new StopsByLetters();
    for (String statement : text.split(";")) due("line() of " + statement + ";", tell(x, statement + ";"), 1);
    return x;
  }

  static void row(StopsByLetters x, int... sights) {
    for (int v : sights) x.row(v);
  }

  static void end() {
    System.out.println(asked - wrong + " of " + asked + " answers are as due");
    if (wrong != 0) System.exit(1);
  }
}
