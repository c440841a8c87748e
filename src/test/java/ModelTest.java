/** Many runs of calls, drawn by fixed seeds, answered by the program and by the model alike. */
public final class ModelTest {
  private static final int RUNS = 300;
  private static final int CALLS = 500;
  private static final int[] ODD = {-1, -2, 9, 10, 12, 21, 61, 100, 255, 256, Integer.MIN_VALUE, Integer.MAX_VALUE};

  private final StopsByLetters x = new StopsByLetters();
  private final Model model = new Model();
  private final int run;
  private long seed;
  private int calls = 0;

  private ModelTest(int run) {
    this.run = run;
    seed = run * 0x9E3779B97F4A7C15L + 12345;
  }

  public static void main(String[] args) {
    for (int run = 0; run < RUNS; run++) new ModelTest(run).go();
    Due.end();
  }

  private int below(int bound) {
    seed = seed * 6364136223846793005L + 1442695040888963407L;
    return (int) ((seed >>> 33) % bound);
  }

  /** Mostly a number from 0 to below the bound, now and then an odd one. */
  private int some(int bound) {
    return below(14) == 0 ? ODD[below(ODD.length)] : below(bound);
  }

  private int station() {
    int known = model.count(0);
    return some(known == 0 ? 2 : known + (below(12) == 0 ? 1 : 0));
  }

  private void same(String call, long got, long want) {
    calls++;
    Due.due("run " + run + ", call " + calls + ": " + call, got, want);
  }

  private void go() {
    while (calls < CALLS - 100) {
      if (below(9) == 0) tell();
      else call();
    }
    for (int what = 0; what <= 16; what++) same("count(" + what + ")", x.count(what), model.count(what));
  }

  private String named() {
    int size = below(10) == 0 ? 7 + below(4) : 1 + below(4);
    StringBuilder name = new StringBuilder();
    for (int i = 0; i < size; i++) name.append(below(3) == 0 ? "aeiou".charAt(below(5)) : (char) ('a' + below(26)));
    return name.toString();
  }

  private String statement() {
    // Runs of few stations, too: else each would soon have all eight.
    boolean isFull = model.count(0) >= 1 + run % 9;
    switch (below(isFull ? 3 : 6)) {
      case 0: return "r;";
      case 1: return "o;";
      case 2: return "n" + below(model.count(0) + 2) % 10 + "=" + named() + ";";
      default: return "s" + "sfvjel".charAt(below(6)) + "=" + named() + ";";
    }
  }

  private void tell() {
    StringBuilder text = new StringBuilder();
    int statements = below(4);
    for (int i = 0; i <= statements; i++) text.append(statement());
    if (below(5) == 0) text.setCharAt(below(text.length()), "snro=;a0\u00ffA".charAt(below(10)));
    if (below(8) == 0) text.setLength(below(text.length()));
    for (int i = 0; i < text.length(); i++) {
      same("letter(" + (int) text.charAt(i) + ")", x.letter(text.charAt(i)), model.letter(text.charAt(i)));
    }
    same("line() of " + text, x.line(), model.line());
  }

  private void call() {
    int a = station();
    int b = station();
    switch (below(30)) {
      case 0: tellRow(); break;
      case 1: { int v = some(4); same("station(" + a + ", " + v + ")", x.station(a, v), model.station(a, v)); break; }
      case 2: { int v = some(9); same("name(" + a + ", " + v + ")", x.name(a, v), model.name(a, v)); break; }
      case 3: { int v = some(6); same("kind(" + a + ", " + v + ")", x.kind(a, v), model.kind(a, v)); break; }
      case 4: { int v = some(2); same("form(" + v + ")", x.form(v), model.form(v)); break; }
      case 5: same("few(" + a + ", " + b + ")", x.few(a, b), model.few(a, b)); break;
      case 6: { int n = some(21); same("ways(" + a + ", " + b + ", " + n + ")", x.ways(a, b, n), model.ways(a, b, n)); break; }
      case 7: same("whither(" + a + ")", x.whither(a), model.whither(a)); break;
      case 8: same("whence(" + a + ")", x.whence(a), model.whence(a)); break;
      case 9: same("blind()", x.blind(), model.blind()); break;
      case 10: same("dead()", x.dead(), model.dead()); break;
      case 11: same("parts(" + a + ")", x.parts(a), model.parts(a)); break;
      case 12: same("parts(-1)", x.parts(-1), model.parts(-1)); break;
      case 13: same("never()", x.never(), model.never()); break;
      case 14: { int v = some(2); same("more(" + a + ", " + v + ")", x.more(a, v), model.more(a, v)); break; }
      case 15: { int v = some(2); same("worst(" + v + ")", x.worst(v), model.worst(v)); break; }
      case 16: same("changed()", x.changed(), model.changed()); break;
      case 17: tryLuck(a, b); break;
      case 18: { int v = some(10); same("putIn(" + a + ", " + v + ")", x.putIn(a, v), model.putIn(a, v)); break; }
      case 19: same("shut(" + a + ")", x.shut(a), model.shut(a)); break;
      case 20: { int n = some(62), v = some(101); same("alike(" + n + ", " + v + ")", x.alike(n, v), model.alike(n, v)); break; }
      case 21: { int v = some(10); same("row(" + v + ")", x.row(v), model.row(v)); break; }
      case 22: { int v = some(2); same("gotOn(" + v + ")", x.gotOn(v), model.gotOn(v)); break; }
      case 23: same("misspelt()", x.misspelt(), model.misspelt()); break;
      case 24: same("judge()", x.judge(), model.judge()); break;
      case 25: trySeeds(a); break;
      case 26: if (below(3) == 0) same("image()", x.image(), model.image()); break;
      case 27: if (below(2) == 0) same("on()", x.on(), model.on()); break;
      case 28: { int v = some(18); same("count(" + v + ")", x.count(v), model.count(v)); break; }
      default: { int v = below(3) == 0 ? some(256) : ';'; same("letter(" + v + ")", x.letter(v), model.letter(v)); }
    }
  }

  private void tryLuck(int a, int b) {
    int n = some(9);
    int part = some(2);
    same("luck(" + a + ", " + b + ", " + n + ", " + part + ")", x.luck(a, b, n, part), model.luck(a, b, n, part));
  }

  private void trySeeds(int a) {
    int n = some(61);
    int z = (int) (seed >>> 20) * (below(2) == 0 ? 1 : -1);
    same("seeds(" + a + ", " + n + ", " + z + ")", x.seeds(a, n, z), model.seeds(a, n, z));
  }

  /** A row afresh: rides from place to place, here and there unseen or wrong. */
  private void tellRow() {
    same("judge()", x.judge(), model.judge());
    int at = Math.max(0, Math.min(7, station()));
    int length = below(8) == 0 ? 13 : 1 + below(6);
    for (int i = 0; i < length; i++) {
      int v = below(4) == 0 ? 9 : below(9) == 0 ? below(10) : at;
      same("row(" + v + ")", x.row(v), model.row(v));
      int rides = at < model.count(0) ? model.station(at, 2) : 0;
      if (at < model.count(0)) same("station(" + at + ", 2)", x.station(at, 2), rides);
      for (int next = 0, skip = below(2); next < 8; next++) {
        if ((rides >> next & 1) != 0) {
          at = next;
          if (skip-- == 0) break;
        }
      }
    }
    same("gotOn(0)", x.gotOn(0), model.gotOn(0));
    same("gotOn(1)", x.gotOn(1), model.gotOn(1));
    same("misspelt()", x.misspelt(), model.misspelt());
  }
}
