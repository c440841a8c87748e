import java.util.ArrayList;
import java.util.List;

/** The edges that the document names for promises 28 to 30 and for refusals: a function for each sentence, which stands above it. */
public final class EdgesOfCallsTest {
  // Of longs refusals are told as this one less the number, of more() as the other.
  private static final long LONG = 4000000000000000000L;
  private static final int MORE = 1000000000;
  private static final int LEAST = Integer.MIN_VALUE;
  private static final int GREATEST = Integer.MAX_VALUE;
  // All eight, of every kind; with a row of 12 and 96 letters to come an object is full.
  private static final String EIGHT = "ss=abcdefghi;sf=a;sv=ae;sj=bc;se=oo;sl=ac;ss=aaa;sf=z;r;";
  private static final int[] TWELVE = {0, 1, 2, 3, 4, 5, 6, 7, 8, 9, 0, 1};

  public static void main(String[] args) {
    imageOfNone();
    imageOfEight();
    notTheRowLettersRefusals();
    onWithoutAnImage();
    allIsAsThen();
    onAgain();
    aLaterImage();
    onChangesNoImage();
    countOfNone();
    countOfEight();
    countOther();
    countOfEachRefusal();
    refusalsOfMore();
    refusalsOfLongs();
    nothingChanges();
    eachCallSeesWhatIsToldNow();
    whatOnlyAsksChangesNothing();
    theLastOf512Calls();
    Due.end();
  }

  private static void due(String call, long got, long want) {
    Due.due(call, got, want);
  }

  /** All that one can be asked without a change, but for how many refusals there were. */
  private static List<Integer> state(StopsByLetters x) {
    List<Integer> state = new ArrayList<>();
    for (int what = 0; what <= 5; what++) state.add(x.count(what));
    for (int i = 0; i < x.count(0); i++) {
      for (int what = 0; what <= 3; what++) state.add(x.station(i, what));
      for (int place = 0; place < x.station(i, 1); place++) state.add(x.name(i, place));
    }
    return state;
  }

  private static int refusals(StopsByLetters x) {
    int sum = 0;
    for (int what = 11; what <= 16; what++) sum += x.count(what);
    return sum;
  }

  private static StopsByLetters full() {
    StopsByLetters x = Due.with(EIGHT);
    Due.row(x, TWELVE);
    Due.send(x, "r;".repeat(48));
    return x;
  }

  // 28: "how many STATIONS": none
  private static void imageOfNone() {
    StopsByLetters x = new StopsByLetters();
    due("28: none", x.image(), 0);
    Due.tell(x, "ss=a;r;");
    due("29: an image of none is one", x.on(), 0);
    due("29: no station", x.station(0, 0), -1);
    due("29: no ring", x.count(2), 0);
    due("29: no refusal but of that station", refusals(x), 1);
  }

  // 28: "how many STATIONS": up to eight
  private static void imageOfEight() {
    StopsByLetters x = new StopsByLetters();
    for (int known = 1; known <= 8; known++) {
      Due.tell(x, "ss=a;");
      due("28: how many", x.image(), known);
    }
    due("28: they are there still", x.count(0), 8);
    due("29: how many", x.on(), 8);
  }

  // Terms: "THE IMAGE: all that is told (not the ROW, letters, REFUSALS)"
  private static void notTheRowLettersRefusals() {
    StopsByLetters x = Due.with("ss=a;");
    Due.row(x, 0, 9);
    Due.send(x, "r;o");
    x.form(2);
    x.image();
    due("28: the row stays", x.count(4), 2);
    due("28: letters stay", x.count(5), 3);
    due("28: refusals stay", x.count(12), 1);
    Due.row(x, 3);
    Due.send(x, ";");
    x.form(2);
    x.on();
    due("29: the row is as now", x.count(4), 3);
    due("29: letters are as now", x.count(5), 4);
    due("29: refusals are as now", x.count(12), 2);
    due("29: the letters are a line", x.line(), 2);
    due("29: the row is judged", x.judge(), 1);
    x.on();
    due("29: no row comes again", x.count(4), 0);
    due("29: no letters come again", x.count(5), 0);
  }

  // 29: "-3 there is none."
  private static void onWithoutAnImage() {
    StopsByLetters x = Due.with("ss=ab;r;");
    due("29: on()", x.on(), -3);
    due("29: on() again", x.on(), -3);
    due("29: counted", x.count(13), 2);
    due("29: nothing changes", 10 * x.count(0) + x.count(2), 11);
    x.image();
    due("29: there is one", x.on(), 1);
    due("29: counted", x.count(13), 2);
  }

  // Terms: "ON from it all is as then."
  private static void allIsAsThen() {
    StopsByLetters x = Due.with(EIGHT);
    List<Integer> then = state(x);
    x.image();
    for (int i = 0; i < 8; i++) {
      Due.tell(x, "n" + i + "=qqqqq;");
      x.kind(i, (i + 1) % 6);
    }
    x.form(0);
    due("29: it is another now", state(x).equals(then) ? 1 : 0, 0);
    due("29: on()", x.on(), 8);
    due("29: all is as then", state(x).equals(then) ? 1 : 0, 1);
    StopsByLetters fewer = Due.with("ss=ab;sl=cd;");
    fewer.image();
    Due.tell(fewer, "ss=a;ss=b;n1=x;r;");
    due("29: on()", fewer.on(), 2);
    due("29: no more of them", fewer.station(2, 0), -1);
    due("29: rides are as then", 10 * fewer.station(0, 2) + fewer.count(3), 0);
    due("29: the next one is the third", 10 * Due.tell(fewer, "sv=e;") + fewer.station(2, 0), 12);
  }

  // 29: "ON from it", once more
  private static void onAgain() {
    StopsByLetters x = Due.with("ss=abc;");
    x.image();
    for (int i = 0; i < 3; i++) {
      Due.tell(x, "n0=z;ss=a;r;");
      x.kind(0, 5);
      due("29: on()", x.on(), 1);
      due("29: kind", x.station(0, 0), 0);
      due("29: letters", x.station(0, 1), 3);
      due("29: first letter", x.name(0, 0), 0);
      due("29: form", x.count(2), 0);
    }
  }

  // 28: "THE IMAGE is taken", once more
  private static void aLaterImage() {
    StopsByLetters x = Due.with("ss=abc;");
    x.image();
    Due.tell(x, "n0=xy;sf=a;r;");
    due("28: the later one", x.image(), 2);
    Due.tell(x, "n0=q;o;");
    due("29: on()", x.on(), 2);
    due("29: letters", x.station(0, 1), 2);
    due("29: form", x.count(2), 1);
  }

  // Terms: "ON from it": the image itself is as it was
  private static void onChangesNoImage() {
    StopsByLetters x = Due.with("ss=abc;ss=de;");
    x.image();
    x.on();
    x.kind(0, 3);
    Due.tell(x, "n1=z;");
    x.worst(0);
    x.changed();
    x.shut(0);
    x.putIn(0, 9);
    x.on();
    due("29: kind", x.station(0, 0), 0);
    due("29: letters", 10 * x.station(0, 1) + x.station(1, 1), 32);
    due("29: name", x.name(1, 0), 3);
  }

  // 30: "0 STATIONS, 1 all LETTERS, 2 1 a RING, 3 all RIDES, 4 in the ROW, 5 letters, 11 .. 16 REFUSALS", of none
  private static void countOfNone() {
    StopsByLetters x = new StopsByLetters();
    for (int what = 0; what <= 5; what++) due("30: count(" + what + ")", x.count(what), 0);
    for (int what = 11; what <= 16; what++) due("30: count(" + what + ")", x.count(what), 0);
  }

  // 30: the same of as many as there can be
  private static void countOfEight() {
    StopsByLetters x = full();
    due("30: stations", x.count(0), 8);
    due("30: all letters", x.count(1), 9 + 1 + 2 + 2 + 2 + 2 + 3 + 1);
    due("30: a ring", x.count(2), 1);
    // Round 8: 0 by 9, 1 by 1, 2 by 2, 3 by 2 + 2, 4 by 2, 5 by 3, 6 by 3, 7 by 1.
    due("30: all rides", x.count(3), 2 + 1 + 2 + 1 + 2 + 1 + 2 + 1);
    due("30: in the row", x.count(4), 12);
    due("30: letters", x.count(5), 96);
    StopsByLetters most = Due.with("ss=abcdefghi;".repeat(8));
    due("30: 72 letters", most.count(1), 72);
    due("30: no ride", most.count(3), 0);
    most.form(1);
    due("30: 16 rides", most.count(3), 16);
    most.form(0);
    due("30: a row", most.count(2), 0);
  }

  // 30: "-9 for another what."
  private static void countOther() {
    StopsByLetters x = new StopsByLetters();
    for (int what : new int[] {-1, -9, 6, 7, 8, 9, 10, 17, 18, 100, LEAST, GREATEST}) {
      due("30: count(" + what + ")", x.count(what), -9);
    }
    due("30: that is no refusal", refusals(x), 0);
  }

  // 30: "11 .. 16 REFUSALS -1 .. -6"
  private static void countOfEachRefusal() {
    int[] due = {0, 0, 0, 0, 0, 0};
    StopsByLetters x = Due.with("ss=a;");
    for (int round = 0; round < 3; round++) {
      x.whither(1);
      due[0]++;
      dueCounts(x, due);
      x.form(2);
      due[1]++;
      dueCounts(x, due);
      x.more(0, 0);
      due[2]++;
      dueCounts(x, due);
      x.ways(0, 0, -1);
      due[3]++;
      dueCounts(x, due);
      x.luck(0, 0, 9, 0);
      due[5]++;
      dueCounts(x, due);
    }
  }

  private static void dueCounts(StopsByLetters x, int[] due) {
    for (int i = 0; i < 6; i++) due("30: count(" + (11 + i) + ")", x.count(11 + i), due[i]);
  }

  // Terms: "Of more() REFUSALS are 1000000000 less them (-1 is told as 1000000001)"
  private static void refusalsOfMore() {
    StopsByLetters x = Due.with("ss=a;");
    due("16: -1", x.more(1, 1), 1000000001);
    due("16: -2", x.more(0, 2), 1000000002);
    due("16: -3", x.more(0, 0), 1000000003);
  }

  // Terms: "of longs 4000000000000000000 less (-1 as 4000000000000000001)"
  private static void refusalsOfLongs() {
    StopsByLetters x = Due.with("ss=a;");
    due("9: -1", x.ways(1, 0, 0), 4000000000000000001L);
    due("9: -4", x.ways(0, 0, -1), 4000000000000000004L);
    due("9: -6", x.ways(0, 0, 21), 4000000000000000006L);
    due("19: -1", x.luck(1, 0, 0, 0), 4000000000000000001L);
    due("19: -4", x.luck(0, 0, -1, 0), 4000000000000000004L);
    due("19: -6", x.luck(0, 0, 9, 0), 4000000000000000006L);
    due("19: -2", x.luck(0, 0, 0, 2), 4000000000000000002L);
    due("24: -2", x.gotOn(2), 4000000000000000002L);
    due("24: -3", x.gotOn(0), 4000000000000000003L);
  }

  // Terms: "the call answers the number .. nothing changes but how many there were"
  private static void nothingChanges() {
    for (int call = 0; call < 44; call++) {
      StopsByLetters x = full();
      List<Integer> before = state(x);
      long number = refused(x, call);
      due("refused call " + call + " answers the number", number < 0 && number >= -6 ? 1 : 0, 1);
      due("refused call " + call + ", nothing changes", state(x).equals(before) ? 1 : 0, 1);
      due("refused call " + call + ", counted once", refusals(x), 1);
      due("refused call " + call + ", counted by its number", number < 0 && number >= -6 ? x.count(10 - (int) number) : 0, 1);
    }
  }

  /** A call that a full object refuses; told as the number, whichever way the call answers it. */
  private static long refused(StopsByLetters x, int call) {
    switch (call) {
      case 0: return x.letter('a');
      case 1: return x.letter(256);
      case 2: return x.letter(LEAST);
      case 3: return x.station(8, 0);
      case 4: return x.station(0, 4);
      case 5: return x.name(GREATEST, 0);
      case 6: return x.name(0, 9);
      case 7: return x.name(1, LEAST);
      case 8: return x.kind(8, 1);
      case 9: return x.kind(0, 6);
      case 10: return x.kind(7, -1);
      case 11: return x.form(2);
      case 12: return x.form(-1);
      case 13: return x.few(0, 8);
      case 14: return x.few(LEAST, GREATEST);
      case 15: return LONG - x.ways(0, 8, 1);
      case 16: return LONG - x.ways(0, 0, -1);
      case 17: return LONG - x.ways(0, 0, GREATEST);
      case 18: return x.whither(8);
      case 19: return x.whence(-1);
      case 20: return x.parts(8);
      case 21: return x.parts(-2);
      case 22: return MORE - x.more(-1, 1);
      case 23: return MORE - x.more(0, GREATEST);
      case 24: return MORE - x.more(1, 0);
      case 25: return x.worst(2);
      case 26: return LONG - x.luck(8, 0, 1, 0);
      case 27: return LONG - x.luck(0, 0, LEAST, 0);
      case 28: return LONG - x.luck(0, 0, 9, 0);
      case 29: return LONG - x.luck(0, 0, 8, 2);
      case 30: return x.putIn(8, 1);
      case 31: return x.putIn(0, 0);
      case 32: return x.putIn(0, 10);
      case 33: return x.putIn(0, 1);
      case 34: return x.shut(8);
      case 35: return x.alike(0, 1);
      case 36: return x.alike(61, 1);
      case 37: return x.row(0);
      case 38: return x.row(-1);
      case 39: return LONG - x.gotOn(2);
      case 40: return x.seeds(8, 1, LEAST);
      case 41: return x.seeds(0, 0, GREATEST);
      case 42: return x.seeds(0, 61, 0);
      default: return x.on();
    }
  }

  // Each call answers of what is told when it comes, though another was asked, or only tried, just before it.
  private static void eachCallSeesWhatIsToldNow() {
    long[] inARow = {-9, 0, 128, 1, 1, 128, 8, 128, 28, 0, 7, 1, 0, 7, 0, 7};
    long[] inARing = {1, 1, 255, 255, 0, 0, 1, 255, 0, 1, 0, -9, 128, 8, 128, 8};
    for (int call = 0; call < inARow.length; call++) {
      StopsByLetters x = Due.with("sf=a;".repeat(8));
      for (int round = 0; round < 3; round++) {
        askAnother(x, round);
        x.form(1);
        due("call " + call + " in a ring", asked(x, call), inARing[call]);
        askAnother(x, round);
        x.form(0);
        due("call " + call + " in a row", asked(x, call), inARow[call]);
      }
    }
  }

  private static void askAnother(StopsByLetters x, int round) {
    if (round == 0) x.never();
    if (round == 1) x.changed();
    if (round == 2) x.shut(3);
  }

  /** What eight that go one forward are asked. */
  private static long asked(StopsByLetters x, int call) {
    switch (call) {
      case 0: return x.few(7, 0);
      case 1: return x.ways(7, 0, 1);
      case 2: return x.whither(7);
      case 3: return x.whence(0);
      case 4: return x.blind();
      case 5: return x.dead();
      case 6: return x.parts(-1);
      case 7: return x.parts(7);
      case 8: return x.never();
      case 9: return x.luck(7, 0, 1, 0);
      case 10: return x.seeds(7, 1, 1);
      case 11: x.row(7); x.row(0); return x.judge();
      case 12: x.row(7); x.row(1); return seenAndJudged(x, x.misspelt());
      case 13: x.row(9); x.row(9); return seenAndJudged(x, x.gotOn(1));
      case 14: x.row(7); x.row(0); return seenAndJudged(x, x.gotOn(0));
      default: return x.count(3);
    }
  }

  private static long seenAndJudged(StopsByLetters x, long answer) {
    x.judge();
    return answer;
  }

  // Terms: what would be is told, not made: "NEVER then", "would let some way fit", "where one is then"
  private static void whatOnlyAsksChangesNothing() {
    StopsByLetters x = full();
    List<Integer> before = state(x);
    x.few(0, 7);
    x.ways(0, 7, 20);
    x.blind();
    x.dead();
    x.parts(-1);
    x.never();
    x.more(0, 1);
    x.more(0, 0);
    x.worst(0);
    x.worst(1);
    x.changed();
    x.luck(0, 7, 8, 0);
    x.shut(0);
    x.alike(60, 99);
    x.gotOn(0);
    x.gotOn(1);
    x.misspelt();
    x.seeds(0, 60, 1);
    x.image();
    due("nothing changes", state(x).equals(before) ? 1 : 0, 1);
    due("nothing is refused", refusals(x), 0);
    StopsByLetters seven = Due.with("ss=a;".repeat(7));
    seven.putIn(3, 9);
    due("20: nothing changes", 100 * seven.count(0) + seven.count(1), 707);
  }

  // "An object is used for at most 512 calls after it has been made": so many are good
  private static void theLastOf512Calls() {
    StopsByLetters x = new StopsByLetters();
    for (int call = 1; call <= 511; call++) x.letter(-1);
    due("the 512th call", x.count(14), 511);
    StopsByLetters told = new StopsByLetters();
    for (int i = 0; i < 85; i++) {
      Due.send(told, "ss=a;");
      due("line " + i, told.line(), i < 8 ? 1 : -2000);
    }
    due("the 511th call", told.count(0), 8);
    due("the 512th call", told.count(16), 0);
  }
}
