/** The edges that the document names for promises 4 and 8 to 15: a function for each sentence, which stands above it. */
public final class EdgesOfRidesTest {
  // Of longs refusals are told as this one less the number.
  private static final long LONG = 4000000000000000000L;
  private static final int[] NOBODY = {-1, 8, Integer.MIN_VALUE, Integer.MAX_VALUE};
  private static final String CHAIN = "sf=a;".repeat(8);

  public static void main(String[] args) {
    stationOfNobody();
    stationOther();
    firstKindThenLetters();
    roundInARing();
    notThereInARow();
    theEndsOfARow();
    eachPlaceOnce();
    aRideOf0Stops();
    aRideToWhereItBegins();
    forwardAlone();
    byVowels();
    whatIsAVowel();
    joinedWithTheNext();
    theLastOneWithTheFirst();
    ifThatIsEven();
    byThePlaceOfTheLastLetter();
    fewOfNobody();
    fewIs0ForTheSameOne();
    fewNever();
    fewest();
    waysOfNobody();
    waysByTooFewOrMany();
    theFirstRefusalOfWays();
    waysBy0();
    waysBy20();
    waysByJustN();
    whitherAndWhenceOfNobody();
    itselfToo();
    whitherAndWhence();
    fromOthers();
    blindAndDead();
    partsOfNobody();
    partsOfNoneAndAll();
    asGreatAsTheyCanBe();
    neverOfNoneAndAll();
    neverOneWay();
    Due.end();
  }

  private static void due(String call, long got, long want) {
    Due.due(call, got, want);
  }

  /** Stop by stop, as one would ride; -1 is beyond the end of a row. */
  private static int walked(int from, int step, int stops, int known, boolean isRing) {
    int at = from;
    for (int n = 0; n < stops; n++) {
      at += step;
      if (at < 0 || at >= known) {
        if (!isRing) return -1;
        at = at < 0 ? known - 1 : 0;
      }
    }
    return at;
  }

  private static int bit(int station) {
    return station < 0 ? 0 : 1 << station;
  }

  private static int bothWays(int from, int stops, int known, boolean isRing) {
    return bit(walked(from, 1, stops, known, isRing)) | bit(walked(from, -1, stops, known, isRing));
  }

  /** Stations enough of letter b, of which the first is told. */
  private static StopsByLetters first(String statement, int known) {
    return Due.with(statement + "ss=b;".repeat(known - 1));
  }

  // 4: "-1"
  private static void stationOfNobody() {
    StopsByLetters x = Due.with(CHAIN);
    for (int what = 0; what <= 3; what++) {
      for (int station : NOBODY) due("4: station(" + station + ", " + what + ")", x.station(station, what), -1);
      due("4: of none", new StopsByLetters().station(0, what), -1);
      due("4: the one behind the last", Due.with("ss=a;").station(1, what), -1);
    }
    due("4: nobody and another what", x.station(8, 4), -1);
    due("4: counted", 100 * x.count(11) + x.count(12), 1700);
  }

  // 4: "-2"
  private static void stationOther() {
    StopsByLetters x = Due.with(CHAIN);
    int[] others = {-1, 4, Integer.MIN_VALUE, Integer.MAX_VALUE};
    for (int what : others) due("4: station(7, " + what + ")", x.station(7, what), -2);
    due("4: counted", 100 * x.count(11) + x.count(12), 4);
  }

  // 4: "0 KIND (0 s, 1 f, 2 v, 3 j, 4 e, 5 l), 1 LETTERS"
  private static void firstKindThenLetters() {
    String kinds = "sfvjel";
    for (int letters = 1; letters <= 9; letters++) {
      StringBuilder text = new StringBuilder();
      for (int i = 0; i < 6; i++) text.append('s').append(kinds.charAt(i)).append('=').append("b".repeat(letters)).append(';');
      StopsByLetters x = Due.with(text.toString());
      for (int i = 0; i < 6; i++) {
        due("4: kind " + i, x.station(i, 0), i);
        due("4: letters of kind " + i, x.station(i, 1), letters);
      }
    }
  }

  // Terms: "in a RING round"; "s STATION: LETTERS stops forward, or back"
  private static void roundInARing() {
    for (int known = 1; known <= 8; known++) {
      for (int letters = 1; letters <= 9; letters++) {
        StopsByLetters x = Due.with(("ss=" + "c".repeat(letters) + ";").repeat(known) + "r;");
        for (int i = 0; i < known; i++) {
          due("4: ring of " + known + ", " + letters + " from " + i, x.station(i, 2), bothWays(i, letters, known, true));
          due("4: as many stops as letters", x.station(i, 3), letters);
        }
      }
    }
    StopsByLetters x = Due.with("ss=a;".repeat(8) + "r;");
    due("4: from the last forward is the first", x.station(7, 2), 1 | 1 << 6);
    due("4: from the first back is the last", x.station(0, 2), 2 | 1 << 7);
  }

  // Terms: "in a ROW it may not be there"
  private static void notThereInARow() {
    for (int known = 1; known <= 8; known++) {
      for (int letters = 1; letters <= 9; letters++) {
        StopsByLetters x = Due.with(("ss=" + "c".repeat(letters) + ";").repeat(known));
        for (int i = 0; i < known; i++) {
          due("4: row of " + known + ", " + letters + " from " + i, x.station(i, 2), bothWays(i, letters, known, false));
          due("4: as many stops as letters", x.station(i, 3), letters);
        }
      }
    }
  }

  // Terms: "in a ROW it may not be there", just at its ends
  private static void theEndsOfARow() {
    StopsByLetters x = Due.with("ss=aaaaaaa;" + "ss=a;".repeat(6) + "ss=aaaaaaa;");
    due("4: 7 forward is the last", x.station(0, 2), 1 << 7);
    due("4: 7 back is the first", x.station(7, 2), 1);
    Due.tell(x, "n0=aaaaaaaa;n7=aaaaaaaa;");
    due("4: 8 forward is beyond", x.station(0, 2), 0);
    due("4: 8 back is beyond", x.station(7, 2), 0);
    x.form(1);
    due("4: 8 forward or back round", x.station(0, 2), 1);
    due("4: 8 forward or back round", x.station(7, 2), 1 << 7);
  }

  // Terms: "where one RIDES to (each place once)"
  private static void eachPlaceOnce() {
    StopsByLetters two = Due.with("ss=a;ss=aaa;r;");
    due("4: one place of two", two.station(0, 2), 2);
    due("30: is one ride", two.count(3), 2);
    due("9: is one way", two.ways(0, 1, 19), 1);
    Due.row(two, 9, 9);
    due("24: fits in one way from each", two.gotOn(1), 2);
    StopsByLetters half = Due.with("ss=aaaa;".repeat(8) + "r;");
    for (int i = 0; i < 8; i++) due("4: half round", half.station(i, 2), 1 << (i + 4) % 8);
    due("30: eight rides", half.count(3), 8);
    due("19: with one ride it is sure", half.luck(0, 4, 7, 1), 1);
  }

  // Terms: "A RIDE of 0 stops .. is one."
  private static void aRideOf0Stops() {
    for (String kind : new String[] {"v", "e"}) {
      StopsByLetters x = Due.with(("s" + kind + "=bcd;").repeat(8));
      for (int ring = 0; ring <= 1; ring++) {
        x.form(ring);
        for (int i = 0; i < 8; i++) {
          due("4: 0 stops of " + kind, x.station(i, 3), 0);
          due("4: it stays there", x.station(i, 2), 1 << i);
        }
        due("30: one ride each", x.count(3), 8);
        due("9: one way", x.ways(7, 7, 20), 1);
        due("27: it rides to itself", x.seeds(7, 60, 1), 7);
      }
    }
  }

  // Terms: "A RIDE .. to where it begins, is one."
  private static void aRideToWhereItBegins() {
    for (int known = 1; known <= 8; known++) {
      StopsByLetters x = Due.with(("ss=" + "c".repeat(known) + ";").repeat(known));
      due("30: in a row there is none", x.count(3), 0);
      x.form(1);
      for (int i = 0; i < known; i++) due("4: once round " + known, x.station(i, 2), 1 << i);
      due("30: is a ride", x.count(3), known);
      due("9: is a way", x.ways(0, 0, 1), 1);
      Due.row(x, 0, 0);
      due("26: is no fault", x.judge(), -9);
    }
  }

  // Terms: "f FORWARD under STATION: forward alone."
  private static void forwardAlone() {
    for (int letters = 1; letters <= 9; letters++) {
      StopsByLetters x = Due.with(("sf=" + "e".repeat(letters) + ";").repeat(8));
      for (int i = 0; i < 8; i++) {
        x.form(0);
        due("4: forward in a row", x.station(i, 2), bit(walked(i, 1, letters, 8, false)));
        x.form(1);
        due("4: forward in a ring", x.station(i, 2), 1 << (i + letters) % 8);
        due("4: as many stops as letters", x.station(i, 3), letters);
      }
    }
  }

  // Terms: "v VOWELS under STATION: as a STATION, by how many of a, e, i, o, u its NAME has."
  private static void byVowels() {
    for (int vowels = 0; vowels <= 9; vowels++) {
      String name = "uoieaaeio".substring(0, vowels) + "bcdfghjkl".substring(vowels);
      StopsByLetters x = Due.with(("sv=" + name + ";").repeat(8));
      for (int i = 0; i < 8; i++) {
        due("4: " + vowels + " vowels", x.station(i, 3), vowels);
        x.form(0);
        due("4: in a row", x.station(i, 2), bothWays(i, vowels, 8, false));
        x.form(1);
        due("4: in a ring", x.station(i, 2), bothWays(i, vowels, 8, true));
      }
    }
  }

  // Terms: "of a, e, i, o, u"
  private static void whatIsAVowel() {
    for (char c = 'a'; c <= 'z'; c++) {
      int each = "aeiou".indexOf(c) >= 0 ? 1 : 0;
      StopsByLetters x = Due.with("sv=" + c + ";se=" + c + c + c + ";sv=x" + c + "x" + c + ";");
      due("4: " + c, x.station(0, 3), each);
      due("4: " + c + " thrice", x.station(1, 3), 3 * each);
      due("4: " + c + " among others", x.station(2, 3), 2 * each);
    }
  }

  // Terms: "j JOINED under STATION: by its LETTERS and those of the next STATION (number and 1; ..)"
  private static void joinedWithTheNext() {
    for (int own = 1; own <= 9; own++) {
      for (int next = 1; next <= 9; next++) {
        StopsByLetters x = Due.with("ss=a;sj=" + "b".repeat(own) + ";se=" + "b".repeat(next) + ";" + "ss=a;".repeat(5));
        due("4: joined", x.station(1, 3), own + next);
        due("4: in a row", x.station(1, 2), bothWays(1, own + next, 8, false));
        x.form(1);
        due("4: in a ring", x.station(1, 2), bothWays(1, own + next, 8, true));
      }
    }
  }

  // Terms: "(..; the last one: the first)"
  private static void theLastOneWithTheFirst() {
    for (int known = 1; known <= 8; known++) {
      StringBuilder text = new StringBuilder();
      for (int i = 0; i < known; i++) text.append("sj=").append("abcdefgh", 0, i + 1).append(';');
      StopsByLetters x = Due.with(text.toString());
      for (int ring = 0; ring <= 1; ring++) {
        x.form(ring);
        for (int i = 0; i < known - 1; i++) due("4: with the next one", x.station(i, 3), 2 * i + 3);
        due("4: the last of " + known + " with the first", x.station(known - 1, 3), known + 1);
      }
    }
  }

  // Terms: "e EVEN under VOWELS: as a VOWELS, if that is an even number; else nowhere."; 4: "(e: what VOWELS would)"
  private static void ifThatIsEven() {
    for (int vowels = 0; vowels <= 9; vowels++) {
      String name = "aeiouuoie".substring(0, vowels) + "bcdfghjkl".substring(vowels);
      StopsByLetters x = Due.with(("se=" + name + ";").repeat(8));
      for (int i = 0; i < 8; i++) {
        due("4: " + vowels + " vowels, odd ones too", x.station(i, 3), vowels);
        x.form(0);
        due("4: in a row", x.station(i, 2), vowels % 2 == 0 ? bothWays(i, vowels, 8, false) : 0);
        x.form(1);
        due("4: in a ring", x.station(i, 2), vowels % 2 == 0 ? bothWays(i, vowels, 8, true) : 0);
      }
    }
  }

  // Terms: "l LAST under FORWARD: as many stops forward as the place of its NAME's last letter (a 1 .. z 26)."
  private static void byThePlaceOfTheLastLetter() {
    for (int place = 1; place <= 26; place++) {
      char c = (char) ('a' + place - 1);
      for (String name : new String[] {"" + c, "z" + c, "aaaaaaaa" + c}) {
        StopsByLetters x = first("sl=" + name + ";", 8);
        due("4: by " + c, x.station(0, 3), place);
        due("4: in a row", x.station(0, 2), bit(walked(0, 1, place, 8, false)));
        x.form(1);
        due("4: in a ring", x.station(0, 2), 1 << place % 8);
      }
    }
    StopsByLetters last = Due.with("ss=a;ss=a;sl=a;");
    due("4: forward alone", last.station(2, 2), 0);
  }

  // 8: "-1 either."
  private static void fewOfNobody() {
    StopsByLetters x = Due.with(CHAIN);
    for (int station : NOBODY) {
      due("8: from " + station, x.few(station, 0), -1);
      due("8: to " + station, x.few(0, station), -1);
      due("8: both " + station, x.few(station, station), -1);
    }
    due("8: counted once each", x.count(11), 3 * NOBODY.length);
    due("8: of none", new StopsByLetters().few(0, 0), -1);
    due("8: to the one behind the last", Due.with("ss=a;").few(0, 1), -1);
  }

  // Terms: "(0 it is the same one)"
  private static void fewIs0ForTheSameOne() {
    StopsByLetters x = Due.with("sf=a;sf=aaaaaaaaa;sv=b;ss=a;ss=aa;ss=a;ss=a;ss=a;");
    for (int i = 0; i < 8; i++) due("8: few(" + i + ", " + i + ")", x.few(i, i), 0);
  }

  // 8: "-9"
  private static void fewNever() {
    StopsByLetters x = Due.with(CHAIN);
    for (int from = 0; from < 8; from++) {
      for (int to = 0; to < from; to++) due("8: few(" + from + ", " + to + ")", x.few(from, to), -9);
    }
    due("30: -9 is no refusal", x.count(11), 0);
    due("8: by a ride to itself alone", Due.with("sv=b;ss=a;").few(0, 1), -9);
  }

  // Terms: "FEW: the fewest RIDES from one to another"
  private static void fewest() {
    StopsByLetters x = Due.with(CHAIN);
    StopsByLetters ring = Due.with(CHAIN + "r;");
    StopsByLetters both = Due.with("ss=a;".repeat(8) + "r;");
    for (int from = 0; from < 8; from++) {
      for (int to = 0; to < 8; to++) {
        int forward = Math.floorMod(to - from, 8);
        if (to > from) due("8: in a row", x.few(from, to), to - from);
        due("8: in a ring, 7 at most", ring.few(from, to), forward);
        due("8: the shorter way", both.few(from, to), Math.min(forward, (8 - forward) % 8));
      }
    }
  }

  // 9: "-1 either"
  private static void waysOfNobody() {
    StopsByLetters x = Due.with(CHAIN);
    for (int station : NOBODY) {
      due("9: from " + station, x.ways(station, 0, 1), LONG + 1);
      due("9: to " + station, x.ways(0, station, 1), LONG + 1);
    }
    due("9: counted", x.count(11), 2 * NOBODY.length);
    due("9: of none", new StopsByLetters().ways(0, 0, 0), LONG + 1);
  }

  // 9: "-4; -6 20"
  private static void waysByTooFewOrMany() {
    StopsByLetters x = Due.with(CHAIN);
    due("9: by -1", x.ways(0, 0, -1), LONG + 4);
    due("9: by the least", x.ways(0, 0, Integer.MIN_VALUE), LONG + 4);
    due("9: by 21", x.ways(0, 0, 21), LONG + 6);
    due("9: by the greatest", x.ways(0, 0, Integer.MAX_VALUE), LONG + 6);
    due("9: counted", 10 * x.count(14) + x.count(16), 22);
  }

  // 9: "Refused as told: -1 either; -4; -6"
  private static void theFirstRefusalOfWays() {
    StopsByLetters x = Due.with(CHAIN);
    due("9: nobody and below", x.ways(8, 0, -1), LONG + 1);
    due("9: nobody and above", x.ways(0, 8, 21), LONG + 1);
    due("9: counted", 100 * x.count(11) + 10 * x.count(14) + x.count(16), 200);
  }

  // Terms: "by just n RIDES (0 .. 20)": 0
  private static void waysBy0() {
    StopsByLetters x = Due.with(CHAIN + "r;");
    for (int from = 0; from < 8; from++) {
      for (int to = 0; to < 8; to++) due("9: by 0", x.ways(from, to, 0), from == to ? 1 : 0);
    }
  }

  // Terms: "by just n RIDES (0 .. 20)": 20
  private static void waysBy20() {
    StopsByLetters x = Due.with("ss=a;".repeat(8) + "r;");
    // Round 8 the powers of 2 cos(45 k) are 2, the root of 2, 0, .. : (2 * 2^20 +- 4 * 2^10) / 8.
    due("9: back where one was", x.ways(0, 0, 20), 262656);
    due("9: at the other side", x.ways(0, 4, 20), 261632);
    due("9: an odd way off", x.ways(0, 1, 20), 0);
    // Round 3: (2^20 + 2) / 3 and (2^20 - 1) / 3.
    StopsByLetters three = Due.with("ss=a;ss=a;ss=a;r;");
    due("9: round 3", three.ways(2, 2, 20), 349526);
    due("9: round 3", three.ways(2, 0, 20), 349525);
  }

  // Terms: "by just n RIDES"
  private static void waysByJustN() {
    StopsByLetters x = Due.with(CHAIN);
    for (int n = 0; n <= 20; n++) due("9: to the end by " + n, x.ways(0, 7, n), n == 7 ? 1 : 0);
    StopsByLetters ring = Due.with(CHAIN + "r;");
    for (int n = 0; n <= 20; n++) due("9: round by " + n, ring.ways(1, 0, n), n % 8 == 7 ? 1 : 0);
  }

  // 10: "-1."; 11: "-1."
  private static void whitherAndWhenceOfNobody() {
    StopsByLetters x = Due.with(CHAIN);
    for (int station : NOBODY) {
      due("10: whither(" + station + ")", x.whither(station), -1);
      due("11: whence(" + station + ")", x.whence(station), -1);
    }
    due("11: counted", x.count(11), 2 * NOBODY.length);
    due("10: of none", new StopsByLetters().whither(0), -1);
    due("11: of none", new StopsByLetters().whence(0), -1);
    due("10: the one behind the last", Due.with("ss=a;").whither(1), -1);
    due("11: the one behind the last", Due.with("ss=a;").whence(1), -1);
  }

  // Terms: "WHITHER: all to which one can come (bits; itself, too); WHENCE: all from which."
  private static void itselfToo() {
    StopsByLetters x = Due.with("ss=aaaaaaaaa;".repeat(8));
    for (int i = 0; i < 8; i++) {
      due("10: with no ride", x.whither(i), 1 << i);
      due("11: with no ride", x.whence(i), 1 << i);
    }
  }

  // Terms: "all to which one can come", by many rides
  private static void whitherAndWhence() {
    StopsByLetters x = Due.with(CHAIN);
    for (int i = 0; i < 8; i++) {
      due("10: all behind", x.whither(i), 256 - (1 << i));
      due("11: all ahead", x.whence(i), (2 << i) - 1);
    }
    x.form(1);
    for (int i = 0; i < 8; i++) {
      due("10: all", x.whither(i), 255);
      due("11: all", x.whence(i), 255);
    }
    // Back by sevens round 8 is one after another: each ride goes against the numbers.
    StopsByLetters back = Due.with("sf=aaaaaaa;".repeat(8) + "r;");
    for (int i = 0; i < 8; i++) due("10: against the numbers", back.whither(i), 255);
  }

  // Terms: "BLIND: .. to which no RIDE leads from others; DEAD: from which none leads to others."
  private static void fromOthers() {
    StopsByLetters self = Due.with("sv=b;".repeat(8));
    due("12: a ride from itself is from no other", self.blind(), 255);
    due("13: a ride to itself is to no other", self.dead(), 255);
    StopsByLetters round = Due.with("ss=aaaaaaaa;".repeat(8) + "r;");
    due("12: round to itself", round.blind(), 255);
    due("13: round to itself", round.dead(), 255);
    StopsByLetters alone = Due.with("ss=a;r;");
    due("12: alone", alone.blind(), 1);
    due("13: alone", alone.dead(), 1);
  }

  // Terms: "BLIND: STATIONS (bits) .. DEAD", none and all
  private static void blindAndDead() {
    StopsByLetters x = Due.with(CHAIN);
    due("12: the first of a row", x.blind(), 1);
    due("13: the last of a row", x.dead(), 128);
    x.form(1);
    due("12: none in a ring", x.blind(), 0);
    due("13: none in a ring", x.dead(), 0);
    StopsByLetters apart = Due.with("ss=aaaaaaaaa;".repeat(8));
    due("12: all", apart.blind(), 255);
    due("13: all", apart.dead(), 255);
    due("12: of none", new StopsByLetters().blind(), 0);
    due("13: of none", new StopsByLetters().dead(), 0);
  }

  // 14: "(station -1)"; "-1."
  private static void partsOfNobody() {
    StopsByLetters x = Due.with(CHAIN);
    due("14: how many", x.parts(-1), 8);
    due("14: that is no refusal", x.count(11), 0);
    int[] nobody = {-2, 8, Integer.MIN_VALUE, Integer.MAX_VALUE};
    for (int station : nobody) due("14: parts(" + station + ")", x.parts(station), -1);
    due("14: counted", x.count(11), nobody.length);
    due("14: of none", new StopsByLetters().parts(0), -1);
    due("14: the one behind the last", Due.with("ss=a;").parts(1), -1);
  }

  // Terms: "how many; the one of a STATION (bits)", of none, one, all apart and all in one
  private static void partsOfNoneAndAll() {
    due("14: of none", new StopsByLetters().parts(-1), 0);
    StopsByLetters alone = Due.with("ss=a;");
    due("14: alone", 10 * alone.parts(-1) + alone.parts(0), 11);
    StopsByLetters x = Due.with(CHAIN);
    for (int i = 0; i < 8; i++) due("14: itself alone", x.parts(i), 1 << i);
    x.form(1);
    due("14: all in one", x.parts(-1), 1);
    for (int i = 0; i < 8; i++) due("14: all", x.parts(i), 255);
  }

  // Terms: "sets in which all come to all (as great as they can be)"
  private static void asGreatAsTheyCanBe() {
    StopsByLetters x = Due.with("ss=aa;".repeat(8) + "r;");
    due("14: two", x.parts(-1), 2);
    for (int i = 0; i < 8; i++) due("14: every second one", x.parts(i), i % 2 == 0 ? 0x55 : 0xaa);
    // 0 and 1 go to and fro, 2 and 3 too; 1 leads to 2, but none back.
    StopsByLetters pairs = Due.with("ss=a;ss=a;sf=a;ss=a;");
    due("14: one way parts", pairs.parts(-1), 2);
    int[] parts = {3, 3, 12, 12};
    for (int i = 0; i < 4; i++) due("14: one way parts", pairs.parts(i), parts[i]);
    due("15: pairs", pairs.never(), 4);
  }

  // Terms: "NEVER: pairs (one, another one)", none and all
  private static void neverOfNoneAndAll() {
    due("15: of none", new StopsByLetters().never(), 0);
    due("15: alone, with no ride to itself", Due.with("ss=a;").never(), 0);
    due("15: all apart", Due.with("ss=aaaaaaaaa;".repeat(8)).never(), 56);
    due("15: all together", Due.with(CHAIN + "r;").never(), 0);
  }

  // Terms: "that never come from the first to the other"
  private static void neverOneWay() {
    due("15: one way", Due.with("sf=a;sf=a;").never(), 1);
    due("15: one way of eight", Due.with(CHAIN).never(), 28);
    due("15: neither way", Due.with("sv=b;sv=b;").never(), 2);
  }
}
