/** Counts and prints the calls whose answer is not the one that is due. */
final class Due {
  private static int asked = 0;
  private static int wrong = 0;

  private Due() {}

  static void due(String call, long got, long want) {
    asked++;
    if (got == want) return;
    wrong++;
    System.out.println(call + " answered " + got + ", due is " + want);
  }

  /** Sends a text letter by letter, and makes a line of it. */
  static int tell(StopsByLetters x, String text) {
    send(x, text);
    return x.line();
  }

  static void send(StopsByLetters x, String text) {
    for (int i = 0; i < text.length(); i++) x.letter(text.charAt(i));
  }

  static StopsByLetters with(String text) {
    StopsByLetters x = new StopsByLetters();
    due("line() of " + text, tell(x, text), text.chars().filter(c -> c == ';').count());
    return x;
  }

  static void row(StopsByLetters x, int... sights) {
    for (int v : sights) x.row(v);
  }

  static void end() {
    System.out.println(asked - wrong + " of " + asked + " answers are as due");
    if (wrong != 0) System.exit(1);
  }
}
