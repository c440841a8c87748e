import java.math.BigInteger;

/** The edges that the document names for promises 23 to 27: a function for each sentence, which stands above it. */
public final class EdgesOfSightsTest {
  // Of longs refusals are told as this one less the number.
  private static final long LONG = 4000000000000000000L;
  private static final int[] NOBODY = {-1, 8, Integer.MIN_VALUE, Integer.MAX_VALUE};
  private static final String CHAIN = "sf=a;".repeat(8);
  private static final String TO_AND_FRO = "ss=a;ss=a;ss=a;";
  private static final int[] TWELVE_UNSEEN = {9, 9, 9, 9, 9, 9, 9, 9, 9, 9, 9, 9};

  public static void main(String[] args) {
    numbersBelow();
    numbersAbove9();
    twelveAtMost();
    theFirstRefusalOfRow();
    gotOnOther();
    gotOnWithoutARow();
    theFirstRefusalOfGotOn();
    behind0Rides();
    notSeen();
    seenWhereNoStationIs();
    twelveSights();
    theRowStays();
    fitOfNone();
    misspeltWithoutARow();
    someDoes();
    eachAlone();
    lettersFrom1();
    lettersTo9();
    notTheNumberItHas();
    anAEach();
    thatOfTheNextOne();
    noneIsMisspelt();
    judgedAllRides();
    judgedTheFirst();
    judgedANine();
    judgedTheFirstThatIsNone();
    judgedTwelve();
    theRowHasNoneThen();
    seedsOfNobody();
    seedsTooFewOrMany();
    theFirstRefusalOfSeeds();
    itEnds();
    byStations();
    withoutItsSignsBit();
    aDrawForEachRide();
    Due.end();
  }

  private static void due(String call, long got, long want) {
    Due.due(call, got, want);
  }

  private static StopsByLetters seen(String text, int... sights) {
    StopsByLetters x = Due.with(text);
    Due.row(x, sights);
    return x;
  }

  // 23: "-4"
  private static void numbersBelow() {
    StopsByLetters x = new StopsByLetters();
    due("23: row(-1)", x.row(-1), -4);
    due("23: row(least)", x.row(Integer.MIN_VALUE), -4);
    due("23: nothing changes", x.count(4), 0);
    due("23: counted", x.count(14), 2);
  }

  // 23: "-6 (9; ..)"; "(0 .. 9)"
  private static void numbersAbove9() {
    StopsByLetters x = new StopsByLetters();
    due("23: row(10)", x.row(10), -6);
    due("23: row(greatest)", x.row(Integer.MAX_VALUE), -6);
    due("23: nothing changes", x.count(4), 0);
    due("23: counted", x.count(16), 2);
    for (int v = 0; v <= 9; v++) due("23: row(" + v + ")", x.row(v), v + 1);
  }

  // 23: "-6 (..; 12, too)"; Terms: "12 at most"
  private static void twelveAtMost() {
    StopsByLetters x = new StopsByLetters();
    for (int i = 1; i <= 12; i++) due("23: the " + i + "th", x.row(9), i);
    due("23: a 13th", x.row(0), -6);
    due("23: a 14th", x.row(9), -6);
    due("23: there are 12", x.count(4), 12);
    due("23: counted", x.count(16), 2);
    x.judge();
    due("23: there is room again", x.row(0), 1);
  }

  // Terms: "the first that fits in the order in which it tells them"; 23: "-4; -6"
  private static void theFirstRefusalOfRow() {
    StopsByLetters x = new StopsByLetters();
    Due.row(x, TWELVE_UNSEEN);
    due("23: below and no room", x.row(-1), -4);
    due("23: above and no room", x.row(10), -6);
    due("23: counted", 10 * x.count(14) + x.count(16), 11);
  }

  // 24: "-2"
  private static void gotOnOther() {
    StopsByLetters x = seen(TO_AND_FRO, 0);
    int[] others = {-1, 2, Integer.MIN_VALUE, Integer.MAX_VALUE};
    for (int what : others) due("24: gotOn(" + what + ")", x.gotOn(what), LONG + 2);
    due("24: counted", x.count(12), others.length);
  }

  // 24: "-3 the ROW has none."
  private static void gotOnWithoutARow() {
    StopsByLetters x = Due.with(TO_AND_FRO);
    due("24: gotOn(0)", x.gotOn(0), LONG + 3);
    due("24: gotOn(1)", x.gotOn(1), LONG + 3);
    due("24: counted", x.count(13), 2);
    x.row(10);
    due("24: a refused number is none", x.gotOn(0), LONG + 3);
    x.row(1);
    x.judge();
    due("24: behind a judged row", x.gotOn(0), LONG + 3);
  }

  // 24: "Refused as told: -2; -3"
  private static void theFirstRefusalOfGotOn() {
    StopsByLetters x = new StopsByLetters();
    due("24: other, and no row", x.gotOn(2), LONG + 2);
    due("24: counted", 10 * x.count(12) + x.count(13), 10);
  }

  // Terms: "where one was behind 0, 1, .. RIDES"
  private static void behind0Rides() {
    for (int station = 0; station < 8; station++) {
      StopsByLetters x = seen("ss=aaaaaaaaa;".repeat(8), station);
      due("24: where he was first", x.gotOn(0), 1 << station);
      due("24: one way", x.gotOn(1), 1);
      Due.row(x, 9);
      due("24: there is no ride", x.gotOn(0), 0);
      due("24: there is no ride", x.gotOn(1), 0);
    }
    StopsByLetters x = seen(CHAIN, 9, 9, 9, 5);
    due("24: 5 behind three rides", x.gotOn(0), 1 << 2);
    StopsByLetters first = seen(CHAIN, 2, 9, 9, 5);
    due("24: 2 first, 5 behind three rides", first.gotOn(0), 1 << 2);
    StopsByLetters late = seen(CHAIN, 2, 9, 5);
    due("24: 5 is one ride farther", late.gotOn(0), 0);
  }

  // Terms: "9 not seen"
  private static void notSeen() {
    StopsByLetters x = seen(CHAIN, 9);
    due("24: anywhere", x.gotOn(0), 255);
    due("24: eight ways", x.gotOn(1), 8);
    for (int rides = 1; rides <= 8; rides++) {
      x.row(9);
      due("24: with " + rides + " rides ahead", x.gotOn(0), 255 >> rides);
      due("24: with " + rides + " rides ahead", x.gotOn(1), 8 - rides);
    }
    StopsByLetters among = seen(TO_AND_FRO, 0, 9, 0);
    due("24: among others", 10 * among.gotOn(0) + among.gotOn(1), 11);
    StopsByLetters last = seen(TO_AND_FRO, 1, 9);
    due("24: as the last", 10 * last.gotOn(0) + last.gotOn(1), 22);
  }

  // Terms: "a ROW of numbers 0 .. 9": a STATION that there is not is not where one can have been
  private static void seenWhereNoStationIs() {
    for (int v = 3; v <= 8; v++) {
      for (int[] sights : new int[][] {{v}, {v, 1}, {1, v}, {0, v, 0}}) {
        StopsByLetters x = seen(TO_AND_FRO, sights);
        due("24: seen at " + v, x.gotOn(0), 0);
        due("24: seen at " + v, x.gotOn(1), 0);
        due("25: seen at " + v, x.misspelt(), 0);
      }
    }
    StopsByLetters full = seen(CHAIN, 8);
    due("24: 8 is never one", full.gotOn(0), 0);
    due("25: 8 is never one", full.misspelt(), 0);
    due("26: 8 is never one", full.judge(), 0);
  }

  // Terms: "12 at most"
  private static void twelveSights() {
    StopsByLetters x = seen("ss=a;".repeat(8) + "r;", TWELVE_UNSEEN);
    due("24: anywhere", x.gotOn(0), 255);
    due("24: 8 times 2^11 ways", x.gotOn(1), 16384);
    StopsByLetters last = seen(CHAIN + "r;", 9, 9, 9, 9, 9, 9, 9, 9, 9, 9, 9, 0);
    due("24: the 12th is behind 11 rides", last.gotOn(0), 1 << 5);
    due("24: one way", last.gotOn(1), 1);
  }

  // 24: "(the ROW stays)"; 25: "(..; the ROW stays)"
  private static void theRowStays() {
    StopsByLetters x = seen(TO_AND_FRO, 0, 2);
    for (int i = 0; i < 2; i++) {
      due("24: gotOn(0)", x.gotOn(0), 0);
      due("24: gotOn(1)", x.gotOn(1), 0);
      due("25: misspelt()", x.misspelt(), 1);
      due("24: the row stays", x.count(4), 2);
    }
    due("26: as it was", x.judge(), 1);
  }

  // Terms: "STATIONS (bits) where he can have been first; how many ways fit", of none
  private static void fitOfNone() {
    for (int v : new int[] {0, 8, 9}) {
      StopsByLetters x = new StopsByLetters();
      x.row(v);
      due("24: of none", x.gotOn(0), 0);
      due("24: of none", x.gotOn(1), 0);
      due("25: of none", x.misspelt(), 0);
      due("26: of none", x.judge(), 0);
    }
  }

  // 25: "-3 the ROW has none."
  private static void misspeltWithoutARow() {
    StopsByLetters x = Due.with(TO_AND_FRO);
    due("25: misspelt()", x.misspelt(), -3);
    due("25: counted", x.count(13), 1);
    x.row(1);
    x.judge();
    due("25: behind a judged row", x.misspelt(), -3);
    due("25: of none", new StopsByLetters().misspelt(), -3);
  }

  // Terms: "if none does now; 0 some does"
  private static void someDoes() {
    due("25: a way fits", seen(TO_AND_FRO, 0, 1, 2).misspelt(), 0);
    due("25: not seen", seen(TO_AND_FRO, TWELVE_UNSEEN).misspelt(), 0);
    due("25: one station", seen("ss=aaaaaaaaa;", 0).misspelt(), 0);
    StopsByLetters x = seen(TO_AND_FRO, 0, 2);
    due("25: none does", x.misspelt(), 1);
    Due.tell(x, "n0=bb;");
    due("25: it does then", x.misspelt(), 0);
    due("30: that is no refusal", x.count(13), 0);
  }

  // Terms: "STATIONS (bits) of which alone"
  private static void eachAlone() {
    for (int i = 0; i < 8; i++) due("25: " + i + " alone", seen(CHAIN + "r;", i, (i + 3) % 8).misspelt(), 1 << i);
    due("25: the one or the other", seen(CHAIN, 0, 9, 3).misspelt(), 3);
    due("25: any of seven", seen(CHAIN + "r;", 0, 9, 9, 9, 9, 9, 9, 0).misspelt(), 127);
    due("25: both would be needed", seen(CHAIN, 0, 2, 4).misspelt(), 0);
  }

  // Terms: "another number of LETTERS (1 .. 9, ..)": 1 and each other; none is no number
  private static void lettersFrom1() {
    for (int letters = 1; letters <= 7; letters++) {
      due("25: by " + letters, seen("sf=aaaaaaaa;" + "sf=a;".repeat(7), 0, letters).misspelt(), 1);
    }
    due("25: 1 back", seen("ss=a;ss=aa;", 1, 0).misspelt(), 2);
    due("25: by 0 it would stay there", seen(CHAIN, 0, 0).misspelt(), 0);
    due("25: by 0 it would stay there", seen("ss=aaaaaaaaa;", 0, 0).misspelt(), 0);
  }

  // Terms: "another number of LETTERS (.. 9, ..)": 8 and 9; 10 is none
  private static void lettersTo9() {
    due("25: by 8 round", seen(CHAIN + "r;", 5, 5).misspelt(), 1 << 5);
    // 1 has no vowels; to be one or 9 from 2 and to leave 0 two or 10 stops it has 1 letter, as now, or 9.
    String nine = "sj=a;sv=b;sf=aaaaaaa;" + "ss=a;".repeat(5) + "r;";
    due("25: by 9 alone", seen(nine, 0, 2, 1, 2).misspelt(), 2);
    // To be two or 10 from 3 and to leave 0 three or 11 stops it has 2 letters, as now, or 10.
    String ten = "sj=a;sv=bb;ss=a;sf=aaaaaa;" + "ss=a;".repeat(4) + "r;";
    due("25: 0 to 3, 3 to 1", seen(ten, 0, 3, 1).gotOn(1), 1);
    due("25: by 10 alone", seen(ten, 0, 3, 1, 3).misspelt(), 0);
  }

  // Terms: "another number"
  private static void notTheNumberItHas() {
    due("25: one letter it has", seen("sv=b;sv=b;", 0, 1).misspelt(), 0);
    due("25: two letters it has", seen("sv=bb;sv=b;sv=b;", 0, 2).misspelt(), 0);
    due("25: one letter is another number", seen("sv=bb;sv=b;", 0, 1).misspelt(), 1);
  }

  // Terms: "(.., "a" each)"
  private static void anAEach() {
    due("25: vowels", seen("sv=bb;sf=a;sf=a;sf=a;", 0, 3).misspelt(), 1);
    due("25: an even number of vowels", seen("se=b;sf=a;sf=a;", 0, 2).misspelt(), 1);
    due("25: an odd number of vowels", seen("se=b;sf=a;sf=a;", 0, 1).misspelt(), 0);
    due("25: the last letter is a", seen("sl=b;sf=a;sf=a;", 0, 1).misspelt(), 1);
    due("25: the last letter is no other", seen("sl=c;sf=a;sf=a;", 0, 2).misspelt(), 0);
    StopsByLetters x = seen("sv=bcd;sl=xyz;", 0, 1);
    due("25: 0 with one vowel", x.misspelt(), 1);
    due("25: the names stay", 100 * x.name(0, 0) + x.name(1, 2), 125);
    due("25: the letters stay", 10 * x.station(0, 1) + x.station(1, 1), 33);
  }

  // Terms: "j JOINED .. by its LETTERS and those of the next STATION"
  private static void thatOfTheNextOne() {
    due("25: its own or those of the next", seen("sj=a;sv=b;sf=a;sf=a;", 0, 3).misspelt(), 3);
    due("25: of the last one and the first", seen("sf=a;sf=a;sj=aa;r;", 2, 0).misspelt(), 5);
  }

  // 25: "MISSPELT (bits ..)", if nothing lets a way fit
  private static void noneIsMisspelt() {
    due("25: forward alone", seen(CHAIN, 3, 2).misspelt(), 0);
    due("25: the last of a row", seen(CHAIN, 7, 9).misspelt(), 0);
    StopsByLetters x = seen(CHAIN, 3, 2);
    x.misspelt();
    for (int what = 11; what <= 16; what++) due("25: that is no refusal", x.count(what), 0);
  }

  // 26: "-9 (whichever it answers, ..)": all are rides, or there are none
  private static void judgedAllRides() {
    due("26: no row", Due.with(CHAIN).judge(), -9);
    due("26: one station", seen(CHAIN, 7).judge(), -9);
    due("26: all eight", seen(CHAIN, 0, 1, 2, 3, 4, 5, 6, 7).judge(), -9);
    due("26: to itself", seen("sv=b;", 0, 0, 0).judge(), -9);
    StopsByLetters x = seen(CHAIN, 7, 0);
    x.form(1);
    due("26: round", x.judge(), -9);
  }

  // Terms: "the first is one, if it is a STATION"
  private static void judgedTheFirst() {
    StopsByLetters x = Due.with(TO_AND_FRO);
    for (int v = 0; v <= 9; v++) {
      Due.row(x, v);
      due("26: first " + v, x.judge(), v < 3 ? -9 : 0);
      Due.row(x, v, v);
      due("26: first and second " + v, x.judge(), v < 3 ? 1 : 0);
    }
  }

  // Terms: "(9 is none; ..)"
  private static void judgedANine() {
    StopsByLetters x = Due.with("ss=a;".repeat(8) + "r;");
    int[][] rows = {{9}, {9, 0}, {0, 9}, {0, 9, 2}, {0, 1, 2, 9}, {0, 1, 9, 9}, TWELVE_UNSEEN};
    int[] due = {0, 0, 1, 1, 3, 2, 0};
    for (int i = 0; i < rows.length; i++) {
      Due.row(x, rows[i]);
      due("26: row " + i, x.judge(), due[i]);
    }
  }

  // Terms: "the first that is no RIDE"
  private static void judgedTheFirstThatIsNone() {
    StopsByLetters x = Due.with(TO_AND_FRO);
    int[][] rows = {{0, 2}, {0, 2, 0}, {1, 0, 0}, {0, 1, 0, 1, 3, 1}, {0, 1, 2, 1, 1, 9}, {2, 1, 0, 8, 9, 5}};
    int[] due = {1, 1, 2, 4, 4, 3};
    for (int i = 0; i < rows.length; i++) {
      Due.row(x, rows[i]);
      due("26: row " + i, x.judge(), due[i]);
    }
  }

  // Terms: "12 at most"
  private static void judgedTwelve() {
    StopsByLetters x = Due.with("ss=a;".repeat(8) + "r;");
    Due.row(x, 0, 1, 2, 3, 4, 5, 6, 7, 0, 7, 6, 5);
    due("26: twelve", x.judge(), -9);
    Due.row(x, 0, 1, 2, 3, 4, 5, 6, 7, 0, 7, 6, 6);
    due("26: the 12th", x.judge(), 11);
    Due.row(x, 0, 1, 2, 3, 4, 5, 6, 7, 0, 7, 6, 9);
    due("26: the 12th", x.judge(), 11);
  }

  // 26: "(whichever it answers, the ROW has none then)"
  private static void theRowHasNoneThen() {
    StopsByLetters x = Due.with(TO_AND_FRO);
    for (int[] row : new int[][] {{}, {0}, {0, 1}, {9}, {0, 0}, {7, 7, 7}, TWELVE_UNSEEN}) {
      Due.row(x, row);
      due("26: there were", x.count(4), row.length);
      x.judge();
      due("26: there is none", x.count(4), 0);
      due("26: the next begins anew", x.judge(), -9);
    }
    for (int what = 11; what <= 16; what++) due("26: no refusal", x.count(what), 0);
  }

  // 27: "-1"
  private static void seedsOfNobody() {
    StopsByLetters x = Due.with(CHAIN);
    for (int station : NOBODY) due("27: seeds(" + station + ", 1, 1)", x.seeds(station, 1, 1), -1);
    due("27: counted", x.count(11), NOBODY.length);
    due("27: of none", new StopsByLetters().seeds(0, 1, 1), -1);
    due("27: the one behind the last", Due.with("ss=a;").seeds(1, 1, 1), -1);
  }

  // 27: "-4; -6 60."; Terms: "n RIDES (1 .. 60)"
  private static void seedsTooFewOrMany() {
    StopsByLetters x = Due.with(CHAIN + "r;");
    due("27: by 0", x.seeds(0, 0, 1), -4);
    due("27: by -1", x.seeds(0, -1, 1), -4);
    due("27: by the least", x.seeds(0, Integer.MIN_VALUE, 1), -4);
    due("27: by 61", x.seeds(0, 61, 1), -6);
    due("27: by the greatest", x.seeds(0, Integer.MAX_VALUE, 1), -6);
    due("27: counted", 10 * x.count(14) + x.count(16), 32);
    due("27: by 1", x.seeds(0, 1, 1), 1);
    due("27: by 60", x.seeds(0, 60, 1), 4);
  }

  // Terms: "the first that fits in the order in which it tells them"; 27: "-1; -4; -6"
  private static void theFirstRefusalOfSeeds() {
    StopsByLetters x = Due.with(CHAIN);
    due("27: nobody and below", x.seeds(8, 0, 1), -1);
    due("27: nobody and above", x.seeds(-1, 61, 1), -1);
    due("27: counted", 100 * x.count(11) + 10 * x.count(14) + x.count(16), 200);
  }

  // Terms: "(..; none: it ends): where one is then"
  private static void itEnds() {
    StopsByLetters x = Due.with(CHAIN);
    for (int n = 1; n <= 60; n++) due("27: by " + n, x.seeds(0, n, n), Math.min(n, 7));
    due("27: from the end", x.seeds(7, 60, 0), 7);
    due("27: alone in a row", Due.with("ss=a;").seeds(0, 1, 5), 0);
  }

  // Terms: "each the one of a number that is a DRAW below how many there are (by STATIONS; ..)"
  private static void byStations() {
    StopsByLetters x = Due.with("ss=a;".repeat(8) + "r;");
    for (int z = -100; z < 100; z++) {
      int from = Math.floorMod(z, 8);
      int lower = Math.min((from + 1) % 8, (from + 7) % 8);
      int upper = Math.max((from + 1) % 8, (from + 7) % 8);
      due("27: from " + from + ", z " + z, x.seeds(from, 1, z), drawn(turned(z), 2) == 0 ? lower : upper);
    }
  }

  /** Z times 1664525 and 1013904223, cut to the 32 bits of an int. */
  private static int turned(int z) {
    return BigInteger.valueOf(z).multiply(BigInteger.valueOf(1664525)).add(BigInteger.valueOf(1013904223)).intValue();
  }

  private static int drawn(int z, int below) {
    BigInteger withoutSign = BigInteger.valueOf(z).clearBit(31).mod(BigInteger.TWO.pow(31));
    return withoutSign.divide(BigInteger.valueOf(256)).mod(BigInteger.valueOf(below)).intValue();
  }

  // Terms: "z becomes z times 1664525 and 1013904223 (an int); (z without its sign's bit by 256, cut) modulo m"
  private static void withoutItsSignsBit() {
    StopsByLetters x = Due.with("ss=a;ss=a;ss=a;r;");
    int[] seeds = {0, 1, -1, 2, 255, 256, -256, 65536, 0x7fffff00, Integer.MIN_VALUE, Integer.MIN_VALUE + 1,
        Integer.MAX_VALUE, Integer.MAX_VALUE - 1, 123456789, -987654321};
    int below0 = 0;
    for (int z : seeds) {
      if (turned(z) < 0) below0++;
      due("27: z " + z, x.seeds(0, 1, z), 1 + drawn(turned(z), 2));
    }
    due("27: some of these draws are from a z below 0", below0 > 3 && below0 < seeds.length - 3 ? 1 : 0, 1);
    // 7 becomes 1025555898, by 256 is 4006077: odd.
    due("27: z 7", x.seeds(0, 1, 7), 2);
    // 1000000 becomes -908406625, without the bit 1239077023, by 256 is 4840144: even.
    due("27: z 1000000", x.seeds(0, 1, 1000000), 1);
  }

  // Terms: "A DRAW below m: z becomes ..": one for each ride, where there is one ride, too
  private static void aDrawForEachRide() {
    for (String text : new String[] {"ss=a;".repeat(8) + "r;", "sf=a;ss=a;sv=b;ss=a;sf=a;ss=a;ss=a;sf=a;r;"}) {
      StopsByLetters x = Due.with(text);
      int[] rides = new int[8];
      for (int i = 0; i < 8; i++) rides[i] = x.station(i, 2);
      for (int z = -60; z < 60; z++) {
        int n = 1 + Math.floorMod(z, 60);
        due("27: " + n + " rides, z " + z, x.seeds(5, n, z), ridden(rides, 5, n, z));
      }
    }
  }

  private static int ridden(int[] rides, int from, int n, int z) {
    int at = from;
    int seed = z;
    for (int ride = 0; ride < n; ride++) {
      seed = turned(seed);
      int left = rides[at];
      for (int skip = drawn(seed, Integer.bitCount(left)); skip > 0; skip--) left &= left - 1;
      at = Integer.numberOfTrailingZeros(left);
    }
    return at;
  }
}
