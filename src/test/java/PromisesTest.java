/** The promises one by one, with answers worked out by hand from the document. */
public final class PromisesTest {
  // Of longs refusals are told as this one less the number.
  private static final long LONG = 4000000000000000000L;
  private static final int MORE = 1000000000;

  public static void main(String[] args) {
    promise1();
    promise2();
    promise3();
    promise3Faults();
    promise4();
    promise5();
    promise6();
    promise7();
    promise8();
    promise9();
    promises10And11();
    promises12And13();
    promises14And15();
    promise16();
    promise17();
    promise18();
    promise19();
    promise20();
    promise21();
    promise22();
    promise23();
    promise24();
    promise25();
    promise26();
    promise27();
    promises28And29();
    promise30();
    Due.end();
  }

  private static void due(String call, long got, long want) {
    Due.due(call, got, want);
  }

  private static void promise1() {
    StopsByLetters x = new StopsByLetters();
    for (int what = 0; what <= 5; what++) due("1: count(" + what + ")", x.count(what), 0);
    for (int what = 11; what <= 16; what++) due("1: count(" + what + ")", x.count(what), 0);
    due("1: blind()", x.blind(), 0);
    due("1: dead()", x.dead(), 0);
    due("1: never()", x.never(), 0);
    due("1: parts(-1)", x.parts(-1), 0);
    due("1: changed()", x.changed(), 0);
    due("1: form(0)", x.form(0), 0);
    due("1: station(0, 0)", x.station(0, 0), -1);
    due("1: line()", x.line(), -1000);
  }

  private static void promise2() {
    StopsByLetters x = new StopsByLetters();
    due("2: letter(-1)", x.letter(-1), -4);
    due("2: letter(256)", x.letter(256), -6);
    due("2: letter(least)", x.letter(Integer.MIN_VALUE), -4);
    due("2: letter(greatest)", x.letter(Integer.MAX_VALUE), -6);
    due("2: letter(0)", x.letter(0), 1);
    due("2: letter(255)", x.letter(255), 2);
    for (int i = 3; i <= 96; i++) due("2: letter(97)", x.letter(97), i);
    due("2: letter(97), a 97th", x.letter(97), -6);
    due("2: letter(-1), a 97th", x.letter(-1), -4);
    due("2: count(5)", x.count(5), 96);
    due("2: count(14)", x.count(14), 3);
    due("2: count(16)", x.count(16), 3);
    due("2: line()", x.line(), -1000);
    due("2: letter(97) behind a line", x.letter(97), 1);
  }

  private static void promise3() {
    StopsByLetters x = new StopsByLetters();
    due("3: two and a ring", Due.tell(x, "ss=ab;sl=z;r;"), 3);
    due("3: count(0)", x.count(0), 2);
    due("3: count(2)", x.count(2), 1);
    due("3: count(5)", x.count(5), 0);
    due("3: names told again", Due.tell(x, "n0=abcdefghi;o;n1=q;"), 3);
    due("3: station(0, 1)", x.station(0, 1), 9);
    due("3: name(0, 8)", x.name(0, 8), 8);
    due("3: name(1, 0)", x.name(1, 0), 16);
    due("3: station(1, 0), the kind stays", x.station(1, 0), 5);
    due("3: count(2)", x.count(2), 0);
    due("3: a station of the same line", Due.tell(x, "n1=b;sv=c;n2=dd;"), 3);
    due("3: station(2, 1)", x.station(2, 1), 2);
    due("3: name(2, 1)", x.name(2, 1), 3);
    due("3: the last form stays", Due.tell(x, "r;o;r;o;r;"), 5);
    due("3: count(2)", x.count(2), 1);
    due("3: five more", Due.tell(x, "ss=a;sf=a;sv=a;sj=a;se=a;"), 5);
    for (int i = 3; i < 8; i++) due("3: station(" + i + ", 0)", x.station(i, 0), i - 3);
    due("3: station(2, 0)", x.station(2, 0), 2);
    String longest = "o;r;".repeat(24);
    due("3: 96 letters", Due.tell(x, longest), 48);
  }

  private static void promise3Faults() {
    StopsByLetters x = Due.with("ss=a;sf=bc;");
    String[] lines = {"", "x", "s", "sa=a;", "ss", "ss=", "ss=a", "ss=;", "ss=aA;", "ss=a ;", "ss==a;",
        "ss=abcdefghij;", "ss=abcdefghij", "ss=abcdefghi", "ss=a;;", ";", "r", "rr;", "o;s", "o;q", "n", "na=a;",
        "n:=a;", "n/=a;", "n0a;", "n0=;", "n0=a{;", "n0=a`;", "n0=abcdefghij;", "S", "ss=a;ss=b;R", "n8=A"};
    int[] places = {0, 0, 1, 1, 2, 3, 4, 3, 4, 4, 3, 12, 12, 12, 5, 0, 1, 1, 3, 2, 1, 1, 1, 1, 2, 3, 4, 4, 12, 0,
        10, 3};
    for (int i = 0; i < lines.length; i++) due("3: " + lines[i], Due.tell(x, lines[i]), -1000 - places[i]);
    due("3: letter 0", Due.tell(x, "r;\0"), -1002);
    due("3: letter 255", Due.tell(x, "s\u00ff"), -1001);
    due("3: no station 2", Due.tell(x, "r;n2=a;"), -2002);
    due("3: no station 9", Due.tell(x, "n9=a;"), -2000);
    due("3: no station 8", Due.tell(x, "n1=a;r;n8=a;"), -2007);
    due("3: not yet ahead of it", Due.tell(x, "n2=a;ss=a;"), -2000);
    due("3: kind 1 goes before kind 2", Due.tell(x, "n7=a;ss=A;"), -1008);
    due("3: the first of two", Due.tell(x, "o;n7=a;n6=a;"), -2002);
    due("3: no room", Due.tell(x, "ss=a;ss=a;ss=a;ss=a;ss=a;ss=a;r;ss=a;n9=a;"), -2032);
    due("3: nothing came", x.count(0), 2);
    due("3: no ring came", x.count(2), 0);
    due("3: no letters are left", x.count(5), 0);
    for (int what = 11; what <= 16; what++) due("3: nothing is counted", x.count(what), 0);
    due("3: 96 letters that lack one", Due.tell(x, "o;".repeat(47) + "ss"), -1096);
  }

  private static void promise4() {
    // Ring of 7, a station of each kind and one more, all with 4 letters, 2 of them vowels, the last the 5th.
    StopsByLetters x = Due.with("ss=bobe;sf=bobe;sv=bobe;sj=bobe;se=bobe;sl=bobe;ss=bobe;r;");
    int[] stops = {4, 4, 2, 8, 2, 5, 4};
    int[] rides = {1 << 4 | 1 << 3, 1 << 5, 1 << 4 | 1, 1 << 4 | 1 << 2, 1 << 6 | 1 << 2, 1 << 3, 1 << 3 | 1 << 2};
    for (int i = 0; i < 7; i++) {
      due("4: station(" + i + ", 0)", x.station(i, 0), i < 6 ? i : 0);
      due("4: station(" + i + ", 1)", x.station(i, 1), 4);
      due("4: station(" + i + ", 2)", x.station(i, 2), rides[i]);
      due("4: station(" + i + ", 3)", x.station(i, 3), stops[i]);
    }
    x.form(0);
    int[] inRow = {1 << 4, 1 << 5, 1 << 4 | 1, 0, 1 << 6 | 1 << 2, 0, 1 << 2};
    for (int i = 0; i < 7; i++) due("4: in a row " + i, x.station(i, 2), inRow[i]);
    due("4: station(7, 0)", x.station(7, 0), -1);
    due("4: station(-1, 9)", x.station(-1, 9), -1);
    due("4: station(0, 4)", x.station(0, 4), -2);
    due("4: station(0, -1)", x.station(0, -1), -2);
    due("4: count(11)", x.count(11), 2);
    due("4: count(12)", x.count(12), 2);
    promise4Edges();
  }

  private static void promise4Edges() {
    StopsByLetters x = Due.with("sv=bcd;se=bcd;se=a;sj=aaaaaaaaa;sl=az;sj=ab;");
    due("4: no vowels, 0 stops", x.station(0, 2), 1);
    due("4: 0 is even", x.station(1, 2), 2);
    due("4: 1 is odd", x.station(2, 2), 0);
    due("4: e says what a vowels would", x.station(2, 3), 1);
    due("4: joined", x.station(3, 3), 11);
    due("4: last z", x.station(4, 3), 26);
    due("4: joined, the last one with the first", x.station(5, 3), 5);
    due("4: joined in a row", x.station(5, 2), 1);
    x.form(1);
    due("4: 26 stops round 6", x.station(4, 2), 1);
    due("4: 11 stops round 6", x.station(3, 2), 1 << 2 | 1 << 4);
    due("4: 5 stops round 6", x.station(5, 2), 1 << 4 | 1);
    StopsByLetters alone = Due.with("sj=abc;");
    due("4: joined with itself", alone.station(0, 3), 6);
    due("4: alone in a row", alone.station(0, 2), 0);
    alone.form(1);
    due("4: alone in a ring", alone.station(0, 2), 1);
    StopsByLetters two = Due.with("ss=a;sf=aa;r;");
    due("4: forward and back are one place", two.station(0, 2), 2);
    due("4: to where it begins", two.station(1, 2), 2);
    StopsByLetters all = Due.with("sv=aeiou;sv=bdf;sl=ba;sl=a;");
    due("4: five vowels", all.station(0, 3), 5);
    due("4: no vowels", all.station(1, 3), 0);
    due("4: last a", all.station(2, 2), 8);
    due("4: last of one", all.station(3, 3), 1);
  }

  private static void promise5() {
    StopsByLetters x = Due.with("ss=az;ss=mnopqrstu;");
    due("5: name(0, 0)", x.name(0, 0), 0);
    due("5: name(0, 1)", x.name(0, 1), 25);
    due("5: name(0, 2)", x.name(0, 2), -1);
    due("5: name(0, -1)", x.name(0, -1), -1);
    for (int i = 0; i < 9; i++) due("5: name(1, " + i + ")", x.name(1, i), 12 + i);
    due("5: name(1, 9)", x.name(1, 9), -1);
    due("5: name(2, 0)", x.name(2, 0), -1);
    due("5: name(-1, 0)", x.name(-1, 0), -1);
    due("5: name(0, greatest)", x.name(0, Integer.MAX_VALUE), -1);
    due("5: count(11)", x.count(11), 6);
    Due.tell(x, "n1=b;");
    due("5: a shorter name", x.name(1, 1), -1);
  }

  private static void promise6() {
    StopsByLetters x = Due.with("se=abe;ss=a;ss=a;ss=a;");
    due("6: kind(0, 1)", x.kind(0, 1), 4);
    due("6: f rides", x.station(0, 2), 8);
    due("6: kind(0, 5)", x.kind(0, 5), 1);
    due("6: kind(0, 6)", x.kind(0, 6), -2);
    due("6: kind(0, -1)", x.kind(0, -1), -2);
    due("6: kind(4, 6)", x.kind(4, 6), -1);
    due("6: kind(-1, 0)", x.kind(-1, 0), -1);
    due("6: kind(0, 0)", x.kind(0, 0), 5);
    due("6: station(0, 0)", x.station(0, 0), 0);
    due("6: station(1, 0)", x.station(1, 0), 0);
    due("6: count(11)", x.count(11), 2);
    due("6: count(12)", x.count(12), 2);
  }

  private static void promise7() {
    StopsByLetters x = Due.with("ss=a;ss=a;ss=a;");
    due("7: form(1)", x.form(1), 0);
    due("7: rides in a ring", x.station(0, 2), 6);
    due("7: form(1) again", x.form(1), 1);
    due("7: form(2)", x.form(2), -2);
    due("7: form(-1)", x.form(-1), -2);
    due("7: count(2)", x.count(2), 1);
    due("7: form(0)", x.form(0), 1);
    due("7: rides in a row", x.station(0, 2), 2);
    due("7: count(12)", x.count(12), 2);
  }

  private static void promise8() {
    StopsByLetters x = Due.with("sf=a;sf=a;sf=a;sf=a;sf=a;sf=a;sf=a;sf=a;");
    due("8: few(0, 7)", x.few(0, 7), 7);
    due("8: few(3, 5)", x.few(3, 5), 2);
    due("8: few(4, 4)", x.few(4, 4), 0);
    due("8: few(1, 0)", x.few(1, 0), -9);
    x.form(1);
    due("8: few(1, 0) round", x.few(1, 0), 7);
    due("8: few(8, 0)", x.few(8, 0), -1);
    due("8: few(0, 8)", x.few(0, 8), -1);
    due("8: few(-1, 0)", x.few(-1, 0), -1);
    due("8: few(0, -1)", x.few(0, -1), -1);
    due("8: count(11)", x.count(11), 4);
    due("8: no ride back to itself is needed", Due.with("ss=aaa;").few(0, 0), 0);
  }

  private static void promise9() {
    StopsByLetters x = Due.with("ss=a;ss=a;ss=a;");
    due("9: ways(0, 0, 0)", x.ways(0, 0, 0), 1);
    due("9: ways(0, 1, 0)", x.ways(0, 1, 0), 0);
    due("9: ways(0, 1, 1)", x.ways(0, 1, 1), 1);
    due("9: ways(1, 1, 20)", x.ways(1, 1, 20), 1024);
    due("9: ways(0, 0, 20)", x.ways(0, 0, 20), 512);
    due("9: ways(0, 1, 20)", x.ways(0, 1, 20), 0);
    due("9: ways(0, 0, 21)", x.ways(0, 0, 21), LONG + 6);
    due("9: ways(0, 0, -1)", x.ways(0, 0, -1), LONG + 4);
    due("9: ways(3, 0, 21)", x.ways(3, 0, 21), LONG + 1);
    due("9: ways(0, 3, -1)", x.ways(0, 3, -1), LONG + 1);
    due("9: ways(0, -1, 0)", x.ways(0, -1, 0), LONG + 1);
    due("9: counts", 100 * x.count(11) + 10 * x.count(14) + x.count(16), 311);
    StopsByLetters one = Due.with("ss=a;r;");
    due("9: forward and back are one way", one.ways(0, 0, 20), 1);
  }

  private static void promises10And11() {
    // 0 leads to 2, 1 to 2, 2 to 1 and 3, 3 to none, 4 to itself.
    StopsByLetters x = Due.with("sf=aa;sf=a;ss=a;sf=aaaa;sv=b;");
    int[] whither = {15, 14, 14, 8, 16};
    int[] whence = {1, 7, 7, 15, 16};
    for (int i = 0; i < 5; i++) {
      due("10: whither(" + i + ")", x.whither(i), whither[i]);
      due("11: whence(" + i + ")", x.whence(i), whence[i]);
    }
    due("10: whither(5)", x.whither(5), -1);
    due("10: whither(-1)", x.whither(-1), -1);
    due("10: count(11)", x.count(11), 2);
    due("11: whence(5)", x.whence(5), -1);
    due("11: whence(-1)", x.whence(-1), -1);
    due("11: count(11)", x.count(11), 4);
  }

  private static void promises12And13() {
    StopsByLetters x = Due.with("sf=aa;sf=a;ss=a;sf=aaaa;sv=b;");
    due("12: a ride to itself comes from no other", x.blind(), 1 | 16);
    due("13: a ride to itself leads to no other", x.dead(), 8 | 16);
    StopsByLetters ring = Due.with("ss=a;ss=a;ss=a;r;");
    due("12: ring", ring.blind(), 0);
    due("13: ring", ring.dead(), 0);
    StopsByLetters alone = Due.with("ss=a;r;");
    due("12: alone", alone.blind(), 1);
    due("13: alone", alone.dead(), 1);
  }

  private static void promises14And15() {
    StopsByLetters x = Due.with("sf=aa;sf=a;ss=a;sf=aaaa;sv=b;");
    due("14: parts(-1)", x.parts(-1), 4);
    int[] parts = {1, 6, 6, 8, 16};
    for (int i = 0; i < 5; i++) due("14: parts(" + i + ")", x.parts(i), parts[i]);
    due("14: parts(5)", x.parts(5), -1);
    due("14: parts(-2)", x.parts(-2), -1);
    due("14: count(11)", x.count(11), 2);
    // 0 misses 4; 1 and 2 miss 0 and 4; 3 and 4 miss four each.
    due("15: never()", x.never(), 1 + 2 + 2 + 4 + 4);
    due("15: ring", Due.with("ss=a;ss=a;ss=a;r;").never(), 0);
    due("15: all apart", Due.with("sv=b;sv=b;sv=b;sv=b;sv=b;sv=b;sv=b;sv=b;").never(), 56);
  }

  private static void promise16() {
    // 0 rides to 1, 1 back to 0.
    StopsByLetters x = Due.with("sf=a;ss=a;");
    due("16: more(0, 1)", x.more(0, 1), 1);
    due("16: more(1, 1)", x.more(1, 1), 1);
    due("16: more(0, 0)", x.more(0, 0), MORE + 3);
    due("16: more(2, 2)", x.more(2, 2), MORE + 1);
    due("16: more(0, 2)", x.more(0, 2), MORE + 2);
    due("16: more(0, -1)", x.more(0, -1), MORE + 2);
    due("16: more(-1, 0)", x.more(-1, 0), MORE + 1);
    due("16: counts", 100 * x.count(11) + 10 * x.count(12) + x.count(13), 221);
    due("16: the names stay", 10 * x.station(0, 1) + x.station(1, 1), 11);
    // Ring of 3, all 9 letters: all ride to where they begin; a tenth letter is 1 stop.
    StopsByLetters nine = Due.with("ss=aaaaaaaaa;ss=aaaaaaaaa;ss=aaaaaaaaa;r;");
    due("16: a tenth letter", nine.more(0, 1), -2);
    due("16: one less of nine", nine.more(0, 0), -2);
    // The last letter is b: 2 stops; with an a behind it is 1, without it z (26).
    StopsByLetters last = Due.with("sl=zb;sl=a;sl=a;r;");
    due("16: all come to all but to 1", last.never(), 2);
    due("16: the a is the last letter", last.more(0, 1), -2);
    due("16: the z is the last letter", last.more(0, 0), 0);
    // A letter more of 1 is a stop more of 0, which is joined with it.
    StopsByLetters joined = Due.with("sj=a;sf=a;sf=a;r;");
    due("16: joined, now 2 stops", joined.station(0, 2), 6);
    due("16: joined, a stop more", joined.more(1, 1), 4 - joined.never());
    // The a is a vowel more.
    StopsByLetters vowels = Due.with("sv=b;sv=a;");
    due("16: a vowel more", vowels.more(0, 1), -1);
    due("16: a vowel less", Due.with("sv=ba;sv=a;").more(0, 0), 1);
    due("16: a consonant less", Due.with("sv=ab;sv=a;").more(0, 0), 0);
  }

  private static void promise17() {
    StopsByLetters x = Due.with("sf=a;ss=a;");
    due("17: alike, the least, greatest", x.worst(0), 1);
    due("17: alike, the least, least", x.worst(1), 1);
    StopsByLetters y = Due.with("sv=a;sv=a;sv=b;");
    // A letter more: 0 rides to 2, 1 nowhere, 2 to 1.
    due("17: worst(0)", y.worst(0), 11);
    due("17: worst(1)", y.worst(1), 21);
    due("17: worst(2)", y.worst(2), -2);
    due("17: worst(-1)", y.worst(-1), -2);
    due("17: count(12)", y.count(12), 2);
    due("17: one less is told as 0", Due.with("ss=aaaaaaaaa;ss=aaaaaaaaa;r;").worst(1), 0);
    due("17: alone", Due.with("ss=aa;").worst(0), 0);
    due("17: none", new StopsByLetters().worst(0), -9);
    due("17: none", new StopsByLetters().worst(1), -9);
  }

  private static void promise18() {
    due("18: none is needed", Due.with("sf=a;ss=a;").changed(), 0);
    due("18: one more", Due.with("sv=b;sv=a;").changed(), 1);
    due("18: one less", Due.with("ss=aa;ss=a;").changed(), 1);
    due("18: two of unlike ones", Due.with("sv=b;sv=b;").changed(), 2);
    due("18: two less", Due.with("ss=aa;ss=aa;").changed(), 2);
    due("18: two of one are no two", Due.with("ss=aaa;ss=a;").changed(), -9);
    due("18: three would be needed", Due.with("sv=b;sv=b;sv=b;").changed(), -9);
    due("18: alone", Due.with("ss=aaa;").changed(), 0);
    StopsByLetters x = Due.with("ss=aa;ss=aa;");
    x.changed();
    due("18: the names stay", x.count(1), 4);
  }

  private static void promise19() {
    // 0 to 1 always, 1 to 0 or 2, 2 to 1.
    StopsByLetters x = Due.with("ss=a;ss=a;ss=a;");
    due("19: luck(0, 2, 2, 0)", x.luck(0, 2, 2, 0), 1);
    due("19: luck(0, 2, 2, 1)", x.luck(0, 2, 2, 1), 2);
    due("19: luck(0, 1, 7, 0)", x.luck(0, 1, 7, 0), 1);
    due("19: luck(0, 1, 7, 1)", x.luck(0, 1, 7, 1), 1);
    due("19: nothing by one", x.luck(0, 1, 8, 0), 0);
    due("19: nothing by one", x.luck(0, 1, 8, 1), 1);
    due("19: no ride", x.luck(1, 1, 0, 0), 1);
    due("19: no ride", x.luck(1, 1, 0, 1), 1);
    due("19: no ride", x.luck(1, 0, 0, 0), 0);
    due("19: no ride", x.luck(1, 0, 0, 1), 1);
    due("19: luck(3, 0, 9, 2)", x.luck(3, 0, 9, 2), LONG + 1);
    due("19: luck(0, -1, 9, 2)", x.luck(0, -1, 9, 2), LONG + 1);
    due("19: luck(0, 0, -1, 2)", x.luck(0, 0, -1, 2), LONG + 4);
    due("19: luck(0, 0, 9, 2)", x.luck(0, 0, 9, 2), LONG + 6);
    due("19: luck(0, 0, 8, 2)", x.luck(0, 0, 8, 2), LONG + 2);
    due("19: luck(0, 0, 8, -1)", x.luck(0, 0, 8, -1), LONG + 2);
    due("19: counts", 1000 * x.count(11) + 100 * x.count(12) + 10 * x.count(14) + x.count(16), 2211);
    // 2 is left by none: half go there from 1 every second time.
    StopsByLetters stay = Due.with("ss=a;ss=a;sf=a;");
    due("19: he stays for good", stay.luck(0, 2, 8, 0), 15);
    due("19: he stays for good", stay.luck(0, 2, 8, 1), 16);
    due("19: one ride alone", Due.with("ss=a;ss=a;r;").luck(0, 1, 5, 1), 1);
  }

  private static void promise20() {
    StopsByLetters x = Due.with("sf=a;ss=a;");
    due("20: behind 0, by 1", x.putIn(0, 1), 0);
    due("20: behind 1, by 1", x.putIn(1, 1), 0);
    // 0 to 1; 1 of 2 letters to none; 2 to 1.
    due("20: behind 0, by 2", x.putIn(0, 2), 4);
    // 0 to 1, 1 to 0 and 2, 2 to 0.
    due("20: behind 1, by 2", x.putIn(1, 2), 0);
    due("20: by 9", x.putIn(1, 9), 2);
    due("20: by 10", x.putIn(1, 10), -6);
    due("20: by 0", x.putIn(1, 0), -4);
    due("20: behind 2", x.putIn(2, 0), -1);
    due("20: behind -1", x.putIn(-1, 10), -1);
    due("20: nothing changes", x.count(0), 2);
    Due.tell(x, "ss=a;ss=a;ss=a;ss=a;ss=a;");
    due("20: an eighth", x.putIn(6, 1), 0);
    Due.tell(x, "ss=a;");
    due("20: a ninth", x.putIn(6, 1), -6);
    due("20: a ninth by 0", x.putIn(6, 0), -4);
    due("20: counts", 100 * x.count(11) + 10 * x.count(14) + x.count(16), 222);
    // Joined with the station put in: 1 + 2 stops round 3 is where it begins; 2 comes to 0 alone.
    StopsByLetters joined = Due.with("sj=a;sf=a;r;");
    due("20: joined", joined.putIn(0, 2), 3);
    due("20: joined", joined.putIn(0, 1), 0);
  }

  private static void promise21() {
    // 1 shut leaves 0 and 2, which ride to one another.
    StopsByLetters x = Due.with("ss=a;sv=b;ss=a;");
    due("21: never()", x.never(), 4);
    due("21: shut(1)", x.shut(1), 0);
    due("21: shut(0)", x.shut(0), 1);
    due("21: shut(2)", x.shut(2), 1);
    due("21: shut(3)", x.shut(3), -1);
    due("21: shut(-1)", x.shut(-1), -1);
    due("21: count(11)", x.count(11), 2);
    due("21: nothing changes", 10 * x.count(0) + x.station(1, 0), 32);
    due("21: the last one", Due.with("ss=a;").shut(0), 0);
    // Joined with 1 it rides 2 stops, with the next one then 3, round to itself; 1 and 2 come to 0 alone.
    StopsByLetters joined = Due.with("sj=a;ss=a;sf=aa;sf=a;r;");
    due("21: joined", joined.shut(1), 4);
  }

  private static void promise22() {
    StopsByLetters x = new StopsByLetters();
    int[][] cases = {{1, 1, 1}, {60, 99, 3}, {60, 60, 60}, {60, 90, 30}, {7, 99, 1}, {12, 8, 4}, {1, 99, 1},
        {60, 1, 1}, {49, 98, 49}, {2, 2, 2}};
    for (int[] one : cases) due("22: alike(" + one[0] + ", " + one[1] + ")", x.alike(one[0], one[1]), one[2]);
    due("22: alike(0, 100)", x.alike(0, 100), -4);
    due("22: alike(61, 0)", x.alike(61, 0), -4);
    due("22: alike(61, 1)", x.alike(61, 1), -6);
    due("22: alike(60, 100)", x.alike(60, 100), -6);
    due("22: alike(least, 1)", x.alike(Integer.MIN_VALUE, 1), -4);
    due("22: counts", 10 * x.count(14) + x.count(16), 32);
  }

  private static void promise23() {
    StopsByLetters x = new StopsByLetters();
    due("23: row(-1)", x.row(-1), -4);
    due("23: row(10)", x.row(10), -6);
    for (int i = 1; i <= 12; i++) due("23: row", x.row(i % 10), i);
    due("23: a 13th", x.row(0), -6);
    due("23: a 13th below", x.row(-1), -4);
    due("23: count(4)", x.count(4), 12);
    due("23: counts", 10 * x.count(14) + x.count(16), 22);
  }

  private static void promise24() {
    StopsByLetters x = Due.with("ss=a;ss=a;ss=a;");
    due("24: none", x.gotOn(0), LONG + 3);
    due("24: none, other", x.gotOn(2), LONG + 2);
    Due.row(x, 9);
    due("24: not seen", x.gotOn(0), 7);
    due("24: not seen, ways", x.gotOn(1), 3);
    Due.row(x, 9, 1);
    // 1 behind two rides: from 1 by 0 or by 2.
    due("24: first", x.gotOn(0), 2);
    due("24: ways", x.gotOn(1), 2);
    Due.row(x, 9, 1);
    due("24: ways", x.gotOn(1), 4);
    due("24: the row stays", x.count(4), 5);
    Due.row(x, 3);
    due("24: no such station", x.gotOn(0), 0);
    due("24: no such station", x.gotOn(1), 0);
    due("24: gotOn(-1)", x.gotOn(-1), LONG + 2);
    due("24: counts", 10 * x.count(12) + x.count(13), 21);
    x.judge();
    Due.row(x, 0, 1, 2);
    due("24: all seen", x.gotOn(0), 1);
    due("24: all seen", x.gotOn(1), 1);
    Due.row(x, 2);
    due("24: no such ride", x.gotOn(1), 0);
    x.judge();
    Due.row(x, 9, 9, 9, 9, 9, 9, 9, 9, 9, 9, 9, 9);
    // From 1: 2 ways every second ride of 11; from 0 and 2: 1 less ride of that.
    due("24: twelve not seen", x.gotOn(1), 64 + 32 + 32);
  }

  private static void promise25() {
    StopsByLetters x = Due.with("ss=a;ss=a;ss=a;");
    due("25: none", x.misspelt(), -3);
    due("25: count(13)", x.count(13), 1);
    Due.row(x, 0, 1);
    due("25: a way fits", x.misspelt(), 0);
    x.judge();
    Due.row(x, 0, 2);
    due("25: 0 with two letters", x.misspelt(), 1);
    due("25: the row stays", x.count(4), 2);
    due("25: the names stay", x.count(1), 3);
    Due.row(x, 0);
    due("25: 0 and 2 would be needed", x.misspelt(), 0);
    x.judge();
    Due.row(x, 9, 1, 1);
    due("25: no letters let it", x.misspelt(), 0);
    x.judge();
    // 0 with two letters goes to 2; 1 with two letters goes to 3.
    StopsByLetters y = Due.with("sf=a;sf=a;sf=a;sf=a;");
    Due.row(y, 0, 9, 3);
    due("25: 0 or 1", y.misspelt(), 3);
    // Named by "a" alone a vowels has as many vowels as letters, a last one stop.
    StopsByLetters kinds = Due.with("sv=b;sl=bc;sf=a;");
    Due.row(kinds, 0, 2);
    due("25: vowels", kinds.misspelt(), 1);
    kinds.judge();
    Due.row(kinds, 1, 2);
    due("25: last", kinds.misspelt(), 2);
    // With just as many letters, "a" each, it would fit; but no other number does.
    StopsByLetters same = Due.with("sv=b;sv=b;");
    Due.row(same, 0, 1);
    due("25: another number alone", same.misspelt(), 0);
    StopsByLetters joined = Due.with("sj=a;sv=b;sf=a;sf=a;");
    Due.row(joined, 0, 3);
    due("25: itself or the next one", joined.misspelt(), 3);
    StopsByLetters nine = Due.with("ss=a;ss=a;ss=a;ss=a;ss=a;ss=a;ss=a;ss=a;r;");
    Due.row(nine, 3, 3);
    due("25: eight letters round", nine.misspelt(), 8);
    // Of 1 only nine letters are a stop and leave 0, joined with it, two stops: one letter it has now.
    StopsByLetters most = Due.with("sj=a;sv=b;sf=aaaaaaa;ss=a;ss=a;ss=a;ss=a;ss=a;r;");
    Due.row(most, 0, 2, 1, 2);
    due("25: nine letters alone", most.misspelt(), 2);
  }

  private static void promise26() {
    StopsByLetters x = Due.with("ss=a;ss=a;ss=a;");
    due("26: none", x.judge(), -9);
    Due.row(x, 0, 1, 2, 1);
    due("26: all rides", x.judge(), -9);
    due("26: the row has none then", x.count(4), 0);
    Due.row(x, 3, 1);
    due("26: no such station", x.judge(), 0);
    due("26: the row has none then", x.count(4), 0);
    Due.row(x, 9, 1);
    due("26: 9 is none", x.judge(), 0);
    Due.row(x, 0, 1, 9, 0);
    due("26: 9 is none", x.judge(), 2);
    Due.row(x, 0, 1, 0, 2, 0);
    due("26: no ride", x.judge(), 3);
    Due.row(x, 0, 1, 2, 3);
    due("26: no station", x.judge(), 3);
    Due.row(x, 2);
    due("26: the first one alone", x.judge(), -9);
    Due.row(x, 0, 0);
    due("26: staying is no ride", x.judge(), 1);
    for (int what = 11; what <= 16; what++) due("26: nothing is counted", x.count(what), 0);
  }

  private static void promise27() {
    StopsByLetters x = Due.with("ss=a;ss=a;ss=a;r;");
    // From 0: z 0 becomes 1013904223; by 256 is 3960563: odd, the second of 1 and 2.
    due("27: one ride", x.seeds(0, 1, 0), 2);
    // 1664525 and 1013904223 is 1015568748; by 256 is 3967065: odd.
    due("27: one ride, z 1", x.seeds(0, 1, 1), 2);
    // -1664525 and 1013904223 is 1012239698; by 256 is 3954061: odd; from 1 the second is 2.
    due("27: one ride, z -1", x.seeds(1, 1, -1), 2);
    // z 1013904223 becomes 1196435762; by 256 is 4673577: odd; from 2 the second is 1.
    due("27: two rides", x.seeds(0, 2, 0), 1);
    due("27: seeds(3, 0, 0)", x.seeds(3, 0, 0), -1);
    due("27: seeds(-1, 61, 0)", x.seeds(-1, 61, 0), -1);
    due("27: seeds(0, 0, 0)", x.seeds(0, 0, 0), -4);
    due("27: seeds(0, 61, 0)", x.seeds(0, 61, 0), -6);
    due("27: counts", 100 * x.count(11) + 10 * x.count(14) + x.count(16), 211);
    StopsByLetters forward = Due.with("sf=a;sf=a;sf=a;");
    due("27: it ends", forward.seeds(0, 60, 5), 2);
    due("27: one ride alone", forward.seeds(0, 1, 5), 1);
    forward.form(1);
    due("27: sixty", forward.seeds(1, 60, 5), 1);
    due("27: fifty-nine", forward.seeds(1, 59, 5), 0);
    // A draw is made where there is one ride, too: behind it z is another.
    StopsByLetters mixed = Due.with("sf=a;ss=a;ss=a;");
    due("27: a draw among one", mixed.seeds(0, 2, 0), 2);
    int z = 0;
    while (draw(z) % 2 == draw(turn(z)) % 2) z++;
    due("27: a draw among one counts", mixed.seeds(0, 2, z), draw(turn(z)) % 2 == 0 ? 0 : 2);
  }

  private static int turn(int z) {
    return z * 1664525 + 1013904223;
  }

  private static int draw(int z) {
    return (turn(z) & Integer.MAX_VALUE) / 256;
  }

  private static void promises28And29() {
    StopsByLetters x = new StopsByLetters();
    due("29: none yet", x.on(), -3);
    due("29: count(13)", x.count(13), 1);
    Due.tell(x, "sl=ab;sf=cde;r;");
    due("28: image()", x.image(), 2);
    Due.tell(x, "n0=zzz;ss=a;o;");
    x.kind(1, 3);
    Due.row(x, 1, 2);
    x.letter(97);
    x.station(9, 9);
    due("29: on()", x.on(), 2);
    due("29: count(0)", x.count(0), 2);
    due("29: the ring", x.count(2), 1);
    due("29: the kinds", 10 * x.station(0, 0) + x.station(1, 0), 51);
    due("29: the letters", 10 * x.station(0, 1) + x.station(1, 1), 23);
    due("29: the names", 100 * x.name(0, 0) + 10 * x.name(0, 1) + x.name(1, 2), 14);
    due("29: the row is as it was", x.count(4), 2);
    due("29: the letters to come are as they were", x.count(5), 1);
    due("29: refusals are as they were", x.count(11), 1);
    x.kind(0, 0);
    due("29: on() again", x.on(), 2);
    due("29: the kinds", x.station(0, 0), 5);
    x.form(0);
    due("28: another image", x.image(), 2);
    x.form(1);
    x.on();
    due("29: the later image", x.count(2), 0);
    StopsByLetters empty = new StopsByLetters();
    due("28: image of none", empty.image(), 0);
    Due.tell(empty, "ss=a;");
    due("29: none", empty.on(), 0);
    due("29: none", empty.station(0, 0), -1);
  }

  private static void promise30() {
    StopsByLetters x = Due.with("ss=abc;sf=a;se=a;ss=a;");
    due("30: count(0)", x.count(0), 4);
    due("30: count(1)", x.count(1), 6);
    due("30: count(2)", x.count(2), 0);
    // 0 to 3; 1 to 2; 2 nowhere; 3 to 2.
    due("30: count(3)", x.count(3), 3);
    Due.row(x, 1, 2, 3);
    due("30: count(4)", x.count(4), 3);
    Due.send(x, "ab");
    due("30: count(5)", x.count(5), 2);
    int[] others = {-1, 6, 7, 10, 17, Integer.MIN_VALUE, Integer.MAX_VALUE};
    for (int what : others) due("30: count(" + what + ")", x.count(what), -9);
    due("30: another what is no refusal", x.count(12), 0);
    x.station(4, 0);
    x.form(2);
    x.form(2);
    x.on();
    x.on();
    x.on();
    x.letter(-1);
    x.letter(256);
    x.letter(256);
    int[] due = {1, 2, 3, 1, 0, 2};
    for (int i = 0; i < 6; i++) due("30: count(" + (11 + i) + ")", x.count(11 + i), due[i]);
    due("30: count(5)", x.count(5), 2);
  }
}
