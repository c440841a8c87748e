/** The edges that the document names for promises 1 to 3 and 5 to 7: a function for each sentence, which stands above it. */
public final class EdgesOfLinesTest {
  private static final String ALPHABET = "abcdefghijklmnopqrstuvwxyz";

  public static void main(String[] args) {
    noStations();
    aRowAtFirst();
    lettersFrom0To255();
    lettersBelow();
    lettersAbove255();
    lettersAbove96();
    theFirstRefusalOfLetters();
    refusedLettersAreNone();
    atLeastOneStatement();
    everyNextLetter();
    theEndIfSomethingLacks();
    aTenthLetter();
    theFirstLetterThatIsWrong();
    elseKind2();
    noSuchStation();
    behindAllAheadOfIt();
    noRoomForMore();
    theFirstLetterOfTheFirstStatement();
    withoutFaultAllComes();
    withAFaultNothingComes();
    lettersAreNoMore();
    nothingIsCounted();
    namesOf1To9Letters();
    behindAllOthers();
    itIsCalledSo();
    aRingOrARow();
    lineReadings();
    nameOfNobody();
    namePlaces();
    nameLetters();
    kindOfNobody();
    kindOther();
    kindWas();
    formOther();
    formWas();
    Due.end();
  }

  private static void due(String call, long got, long want) {
    Due.due(call, got, want);
  }

  // 1: "No STATIONS."
  private static void noStations() {
    StopsByLetters x = new StopsByLetters();
    for (int what : new int[] {0, 1, 3, 4, 5}) due("1: count(" + what + ")", x.count(what), 0);
    for (int station = 0; station < 8; station++) due("1: station(" + station + ", 1)", x.station(station, 1), -1);
    due("1: blind()", x.blind(), 0);
    due("1: dead()", x.dead(), 0);
    due("1: parts(-1)", x.parts(-1), 0);
    due("1: never()", x.never(), 0);
    due("1: worst(0)", x.worst(0), -9);
    due("1: changed()", x.changed(), 0);
    due("1: judge()", x.judge(), -9);
    due("1: image()", x.image(), 0);
    x.form(1);
    due("1: a ring of none, blind()", x.blind(), 0);
    due("1: a ring of none, never()", x.never(), 0);
    due("1: a ring of none, count(3)", x.count(3), 0);
  }

  // Terms: "A ROW (at first) or a RING."
  private static void aRowAtFirst() {
    due("1: a row", new StopsByLetters().count(2), 0);
    due("1: a row was", new StopsByLetters().form(1), 0);
    due("1: nothing goes round", Due.with("ss=a;ss=a;ss=a;").station(2, 2), 2);
  }

  // 2: "A letter (0 .. 255) comes: how many there are."
  private static void lettersFrom0To255() {
    StopsByLetters x = new StopsByLetters();
    due("2: letter(0)", x.letter(0), 1);
    due("2: letter(255)", x.letter(255), 2);
    due("2: letter(128)", x.letter(128), 3);
    due("2: how many there are", x.count(5), 3);
    due("2: letter 0 is the first that is wrong", x.line(), -1000);
    due("2: behind a line there is one", x.letter('r'), 1);
  }

  // 2: "-4" (below 0)
  private static void lettersBelow() {
    StopsByLetters x = new StopsByLetters();
    due("2: letter(-1)", x.letter(-1), -4);
    due("2: letter(least)", x.letter(Integer.MIN_VALUE), -4);
    due("2: counted", x.count(14), 2);
  }

  // 2: "-6 (255; ..)"
  private static void lettersAbove255() {
    StopsByLetters x = new StopsByLetters();
    due("2: letter(256)", x.letter(256), -6);
    due("2: letter(greatest)", x.letter(Integer.MAX_VALUE), -6);
    due("2: counted", x.count(16), 2);
  }

  // 2: "-6 (..; 96, too)"
  private static void lettersAbove96() {
    StopsByLetters x = new StopsByLetters();
    Due.send(x, "r;".repeat(47));
    due("2: the 95th", x.letter('o'), 95);
    due("2: the 96th", x.letter(';'), 96);
    due("2: a 97th", x.letter('r'), -6);
    due("2: a 98th", x.letter(0), -6);
    due("2: there are 96", x.count(5), 96);
    due("2: counted", x.count(16), 2);
    due("2: 96 letters are a line", x.line(), 48);
    due("2: there is room again", x.letter('r'), 1);
  }

  // Terms: "the first that fits in the order in which it tells them"; 2: "-4; -6"
  private static void theFirstRefusalOfLetters() {
    StopsByLetters x = new StopsByLetters();
    Due.send(x, "r;".repeat(48));
    due("2: below and no room", x.letter(-1), -4);
    due("2: above and no room", x.letter(256), -6);
    due("2: one is counted", x.count(14), 1);
    due("2: one is counted", x.count(16), 1);
  }

  // Terms: "nothing changes but how many there were"
  private static void refusedLettersAreNone() {
    StopsByLetters x = new StopsByLetters();
    x.letter('r');
    x.letter(-1);
    x.letter(256 + ';');
    due("2: refused letters are none", x.count(5), 1);
    x.letter(';');
    due("2: refused letters are none", x.line(), 1);
  }

  // Terms: "At least one STATEMENT."
  private static void atLeastOneStatement() {
    StopsByLetters x = Due.with("ss=a;");
    due("3: no letters", x.line(), -1000);
    due("3: no letters behind a line", x.line(), -1000);
    due("3: one statement", Due.tell(x, "r;"), 1);
    due("3: an empty statement is none", Due.tell(x, ";"), -1000);
    due("3: an empty statement is none", Due.tell(x, "o;;"), -1002);
  }

  // Terms: "kind 1 the place of the first letter with which no LINE can go on"
  private static void everyNextLetter() {
    String[] ahead = {"", "s", "ss", "ss=", "ss=a", "ss=abcdefgh", "ss=abcdefghi", "n", "n0", "n0=", "n0=z", "n0=abcdefgh",
        "n0=abcdefghi", "r", "o", "r;", "ss=a;", "n0=a;"};
    String name = ALPHABET + ";";
    String[] fitting = {"snro", "sfvjel", "=", ALPHABET, name, name, ";", "0123456789", "=", ALPHABET, name, name,
        ";", ";", ";", "snro", "snro", "snro"};
    for (int i = 0; i < ahead.length; i++) {
      for (char c = 0; c < 256; c++) {
        String text = ahead[i] + c;
        int lacking = -1000 - text.length();
        int want = fitting[i].indexOf(c) < 0 ? -1000 - ahead[i].length() : c == ';' ? 1 : lacking;
        due("3: " + ahead[i] + " and letter " + (int) c, Due.tell(Due.with("ss=a;"), text), want);
      }
    }
  }

  // Terms: "(the end, if something lacks; ..)"; "STATEMENTS, each with ";" behind"
  private static void theEndIfSomethingLacks() {
    String whole = "sj=ab;n1=xyz;r;o;";
    for (int length = 1; length <= whole.length(); length++) {
      String text = whole.substring(0, length);
      long statements = text.chars().filter(c -> c == ';').count();
      boolean ends = text.endsWith(";");
      due("3: " + text, Due.tell(Due.with("ss=a;"), text), ends ? statements : -1000 - length);
    }
    due("3: 95 letters", Due.tell(new StopsByLetters(), "r;".repeat(47) + "r"), -1095);
  }

  // Terms: "a tenth letter of a NAME is one"
  private static void aTenthLetter() {
    due("3: of s", Due.tell(new StopsByLetters(), "ss=abcdefghij;"), -1012);
    due("3: of s, at the end", Due.tell(new StopsByLetters(), "ss=abcdefghij"), -1012);
    due("3: of n", Due.tell(Due.with("ss=a;"), "n0=abcdefghij;"), -1012);
    due("3: of a later one", Due.tell(new StopsByLetters(), "r;ss=abcdefghi;sf=abcdefghijk;"), -1027);
    due("3: a ninth is none", Due.tell(new StopsByLetters(), "ss=abcdefghi;"), 1);
  }

  // Terms: "the first letter with which no LINE can go on"
  private static void theFirstLetterThatIsWrong() {
    due("3: two are wrong", Due.tell(new StopsByLetters(), "ss=a;s?=?;"), -1006);
    due("3: one is wrong and something lacks", Due.tell(new StopsByLetters(), "ss=a;ss=A"), -1008);
    due("3: wrong far behind", Due.tell(new StopsByLetters(), "r;".repeat(47) + "r:"), -1095);
  }

  // Terms: "else kind 2"
  private static void elseKind2() {
    due("3: kind 1 behind kind 2", Due.tell(new StopsByLetters(), "n0=a;?"), -1005);
    due("3: something lacks behind kind 2", Due.tell(new StopsByLetters(), "n0=a;r"), -1006);
    due("3: kind 2 alone", Due.tell(new StopsByLetters(), "n0=a;r;"), -2000);
  }

  // Terms: "is not as it must be (no such STATION ahead of it, ..)"
  private static void noSuchStation() {
    for (int known = 0; known < 8; known++) {
      StopsByLetters x = new StopsByLetters();
      if (known > 0) Due.tell(x, "ss=a;".repeat(known));
      due("3: n" + known + " of " + known, Due.tell(x, "n" + known + "=b;"), -2000);
      if (known > 0) due("3: the last of " + known, Due.tell(x, "n" + (known - 1) + "=b;"), 1);
    }
  }

  // Terms: "that, behind all ahead of it in the text, is not as it must be"
  private static void behindAllAheadOfIt() {
    StopsByLetters x = new StopsByLetters();
    due("3: one ahead of it in the text", Due.tell(x, "ss=a;n0=bcd;"), 2);
    due("3: it is called so", x.station(0, 1), 3);
    due("3: one behind it in the text", Due.tell(x, "n1=a;ss=a;"), -2000);
    due("3: one too few ahead of it", Due.tell(x, "ss=a;n2=a;ss=a;"), -2005);
    due("3: nothing of that came", x.count(0), 1);
  }

  // Terms: "no room for more"; "(8 at most)"
  private static void noRoomForMore() {
    StopsByLetters x = new StopsByLetters();
    due("3: eight", Due.tell(x, "ss=a;".repeat(8)), 8);
    due("3: eight there are", x.count(0), 8);
    due("3: a ninth", Due.tell(x, "ss=a;"), -2000);
    due("3: a name is no more", Due.tell(x, "n7=ab;"), 1);
    due("3: nine at once", Due.tell(new StopsByLetters(), "ss=a;".repeat(9)), -2040);
    StopsByLetters seven = Due.with("ss=a;".repeat(7));
    due("3: two behind seven", Due.tell(seven, "ss=a;ss=a;"), -2005);
    due("3: seven there are", seven.count(0), 7);
    due("3: an eighth", Due.tell(seven, "ss=a;"), 1);
  }

  // Terms: "the place of the first letter of the first STATEMENT that .. is not as it must be"
  private static void theFirstLetterOfTheFirstStatement() {
    due("3: the first of two", Due.tell(new StopsByLetters(), "r;n0=a;n1=a;"), -2002);
    due("3: no station, then no room", Due.tell(Due.with("ss=a;".repeat(7)), "n7=a;ss=a;ss=a;"), -2000);
    due("3: no room, then no station", Due.tell(Due.with("ss=a;".repeat(8)), "o;ss=abc;n9=a;"), -2002);
    due("3: far behind", Due.tell(Due.with("ss=a;"), "r;".repeat(45) + "n1=a;"), -2090);
  }

  // Terms: "Without FAULT all of it comes"
  private static void withoutFaultAllComes() {
    StopsByLetters x = Due.with("ss=a;");
    due("3: how many statements", Due.tell(x, "r;sf=bc;n0=de;n1=f;sl=g;"), 5);
    due("3: stations", x.count(0), 3);
    due("3: ring", x.count(2), 1);
    due("3: name of 0", 100 * x.station(0, 1) + 10 * x.name(0, 0) + x.name(0, 1), 234);
    due("3: name of 1", 100 * x.station(1, 1) + x.name(1, 0), 105);
    due("3: name of 2", 100 * x.station(2, 1) + x.name(2, 0), 106);
    due("3: kinds", 100 * x.station(0, 0) + 10 * x.station(1, 0) + x.station(2, 0), 15);
  }

  // Terms: "with one nothing"
  private static void withAFaultNothingComes() {
    String[] ends = {"n9=a;", "n3=a;", "?", "ss=a", "ss=abcdefghij;"};
    for (String end : ends) {
      StopsByLetters x = Due.with("ss=ab;sf=cd;");
      Due.tell(x, "r;n0=xyz;sl=e;" + end);
      due("3: " + end + ", stations", x.count(0), 2);
      due("3: " + end + ", form", x.count(2), 0);
      due("3: " + end + ", letters", x.count(1), 4);
      due("3: " + end + ", name of 0", 10 * x.name(0, 0) + x.name(0, 1), 1);
      due("3: " + end + ", name of 1", 10 * x.name(1, 0) + x.name(1, 1), 23);
      due("3: " + end + ", kinds", 10 * x.station(0, 0) + x.station(1, 0), 1);
      due("3: " + end + ", station 2", x.station(2, 0), -1);
    }
  }

  // 3: "The letters become a LINE, and are no more (with a FAULT neither)"
  private static void lettersAreNoMore() {
    StopsByLetters x = new StopsByLetters();
    String[] lines = {"r;", "?", "ss=", "n0=a;", ""};
    for (String line : lines) {
      Due.tell(x, line);
      due("3: behind " + line, x.count(5), 0);
      due("3: behind " + line, Due.tell(x, "o;"), 1);
    }
  }

  // 3: "the FAULT (nothing is counted)"
  private static void nothingIsCounted() {
    StopsByLetters x = new StopsByLetters();
    String[] lines = {"", "?", "ss=", "n0=a;", "ss=a;".repeat(9)};
    for (String line : lines) Due.tell(x, line);
    for (int what = 11; what <= 16; what++) due("3: count(" + what + ")", x.count(what), 0);
  }

  // Terms: "a NAME (1 .. 9 letters a .. z)"
  private static void namesOf1To9Letters() {
    StopsByLetters x = Due.with("ss=a;");
    due("3: none of s", Due.tell(x, "ss=;"), -1003);
    due("3: none of n", Due.tell(x, "n0=;"), -1003);
    due("3: ten", Due.tell(x, "n0=aaaaaaaaaa;"), -1012);
    for (int letters = 1; letters <= 9; letters++) {
      due("3: " + letters, Due.tell(x, "n0=" + "z".repeat(letters) + ";"), 1);
      due("3: " + letters, x.station(0, 1), letters);
    }
  }

  // Terms: ""s" a letter of a KIND, "=", a NAME: a STATION more, behind all others"
  private static void behindAllOthers() {
    StopsByLetters x = new StopsByLetters();
    String kinds = "sfvjelsl";
    for (int i = 0; i < 8; i++) {
      due("3: a station more", Due.tell(x, "s" + kinds.charAt(i) + "=" + "b".repeat(i + 1) + ";"), 1);
      for (int j = 0; j <= i; j++) {
        due("3: kind of " + j, x.station(j, 0), "sfvjel".indexOf(kinds.charAt(j)));
        due("3: letters of " + j, x.station(j, 1), j + 1);
      }
      due("3: no other", x.station(i + 1, 0), -1);
    }
  }

  // Terms: ""n" a STATION (a digit) "=" a NAME: it is called so"
  private static void itIsCalledSo() {
    StopsByLetters x = Due.with("se=abc;".repeat(8));
    for (int i = 0; i < 8; i++) {
      due("3: n" + i, Due.tell(x, "n" + i + "=zyxwvutsr;"), 1);
      for (int j = 0; j < 8; j++) due("3: letters of " + j, x.station(j, 1), j <= i ? 9 : 3);
      due("3: its first letter", x.name(i, 0), 25);
      due("3: its last letter", x.name(i, 8), 17);
      due("3: its kind stays", x.station(i, 0), 4);
    }
  }

  // Terms: ""r": a RING; "o": a ROW."
  private static void aRingOrARow() {
    StopsByLetters x = new StopsByLetters();
    String[] lines = {"r;", "r;", "o;", "o;", "r;o;", "o;r;", "r;ss=a;"};
    int[] rings = {1, 1, 0, 0, 0, 1, 1};
    for (int i = 0; i < lines.length; i++) {
      Due.tell(x, lines[i]);
      due("3: " + lines[i], x.count(2), rings[i]);
    }
  }

  // Terms: "a STATION (a digit)"; "(96 at most)": readings of words that settle no more (see NOTES.md)
  private static void lineReadings() {
    StopsByLetters x = Due.with("ss=a;".repeat(8));
    due("3: 8 is a digit", Due.tell(x, "n8=a;"), -2000);
    due("3: 9 is a digit", Due.tell(x, "r;n9=a;"), -2002);
    due("3: 96 letters that lack something", Due.tell(x, "r;".repeat(46) + "ss=a"), -1096);
  }

  // 5: "-1 either" (the STATION)
  private static void nameOfNobody() {
    StopsByLetters x = Due.with("ss=ab;ss=cd;");
    int[] nobody = {-1, 2, 7, 8, Integer.MIN_VALUE, Integer.MAX_VALUE};
    for (int station : nobody) due("5: name(" + station + ", 0)", x.name(station, 0), -1);
    due("5: of none", new StopsByLetters().name(0, 0), -1);
    due("5: both", x.name(2, 9), -1);
    due("5: counted once each", x.count(11), nobody.length + 1);
  }

  // 5: "-1 either" (the place)
  private static void namePlaces() {
    for (int letters = 1; letters <= 9; letters++) {
      StopsByLetters x = Due.with("ss=" + ALPHABET.substring(0, letters) + ";");
      for (int place = 0; place < letters; place++) due("5: place " + place, x.name(0, place), place);
      due("5: the place behind the last", x.name(0, letters), -1);
      due("5: place -1", x.name(0, -1), -1);
      due("5: least", x.name(0, Integer.MIN_VALUE), -1);
      due("5: greatest", x.name(0, Integer.MAX_VALUE), -1);
      due("5: counted", x.count(11), 4);
    }
    StopsByLetters shorter = Due.with("ss=abcdefghi;n0=xy;");
    due("5: the last of a shorter name", shorter.name(0, 1), 24);
    due("5: what the longer name had", shorter.name(0, 2), -1);
  }

  // 5: "A letter of its NAME (0 .. 25)."
  private static void nameLetters() {
    for (int c = 0; c < 26; c++) {
      StopsByLetters x = Due.with("sv=q" + ALPHABET.charAt(c) + "q;");
      due("5: letter " + c, x.name(0, 1), c);
      due("5: beside it", x.name(0, 2), 16);
    }
  }

  // 6: "-1"
  private static void kindOfNobody() {
    StopsByLetters x = Due.with("ss=a;sf=a;");
    int[] nobody = {-1, 2, 8, Integer.MIN_VALUE, Integer.MAX_VALUE};
    for (int station : nobody) due("6: kind(" + station + ", 3)", x.kind(station, 3), -1);
    due("6: of none", new StopsByLetters().kind(0, 0), -1);
    due("6: nobody and another kind", x.kind(2, 6), -1);
    due("6: counted", 10 * x.count(11) + x.count(12), 60);
    due("6: nothing changes", 10 * x.station(0, 0) + x.station(1, 0), 1);
  }

  // 6: "-2"
  private static void kindOther() {
    StopsByLetters x = Due.with("sv=a;");
    int[] others = {-1, 6, Integer.MIN_VALUE, Integer.MAX_VALUE};
    for (int v : others) {
      due("6: kind(0, " + v + ")", x.kind(0, v), -2);
      due("6: nothing changes", x.station(0, 0), 2);
    }
    due("6: counted", x.count(12), others.length);
  }

  // 6: "KIND becomes v (0 .. 5): what it was."
  private static void kindWas() {
    StopsByLetters x = Due.with("ss=a;".repeat(8));
    for (int station = 0; station < 8; station++) {
      int was = 0;
      for (int v : new int[] {5, 0, 4, 4, 1, 3, 2}) {
        due("6: what it was", x.kind(station, v), was);
        due("6: what it becomes", x.station(station, 0), v);
        was = v;
      }
      if (station < 7) due("6: the next one stays", x.station(station + 1, 0), 0);
    }
  }

  // 7: "-2"
  private static void formOther() {
    StopsByLetters x = new StopsByLetters();
    int[] others = {-1, 2, Integer.MIN_VALUE, Integer.MAX_VALUE};
    for (int v : others) due("7: form(" + v + ") of a row", x.form(v), -2);
    due("7: a row it stays", x.count(2), 0);
    x.form(1);
    for (int v : others) due("7: form(" + v + ") of a ring", x.form(v), -2);
    due("7: a ring it stays", x.count(2), 1);
    due("7: counted", x.count(12), 2 * others.length);
  }

  // 7: "1 a RING, 0 a ROW: what it was."
  private static void formWas() {
    StopsByLetters x = new StopsByLetters();
    int was = 0;
    for (int v : new int[] {0, 1, 1, 0, 0, 1}) {
      due("7: what it was", x.form(v), was);
      due("7: what it becomes", x.count(2), v);
      was = v;
    }
    Due.tell(x, "o;");
    due("7: what a line made it", x.form(1), 0);
  }
}
