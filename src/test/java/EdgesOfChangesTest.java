/** The edges that the document names for promises 16 to 22: a function for each sentence, which stands above it. */
public final class EdgesOfChangesTest {
  // Of longs refusals are told as this one less the number, of more() as the other.
  private static final long LONG = 4000000000000000000L;
  private static final int MORE = 1000000000;
  private static final int[] NOBODY = {-1, 8, Integer.MIN_VALUE, Integer.MAX_VALUE};
  private static final int[] OTHERS = {-1, 2, Integer.MIN_VALUE, Integer.MAX_VALUE};
  private static final String CHAIN = "sf=a;".repeat(8);
  // 2 leads to 3, that to 1, that to 0; 0 rides with 10 vowels to 2, with 9 nowhere, with 8 to itself.
  private static final String TENTH = "se=aaaaaaaaa;sf=aaa;sf=a;sf=aa;r;";

  public static void main(String[] args) {
    moreOfNobody();
    moreOther();
    moreOfTheLastLetter();
    theFirstRefusalOfMore();
    aTenthLetterToo();
    atLeastOneIsLeft();
    neverBelow0();
    anAAtItsEnd();
    anAWhereAnotherWas();
    oneLessAtItsEnd();
    namesAsTheyAre();
    worstOther();
    worstOfNone();
    severalTheLeast();
    tenTimesTheOneAndTheOther();
    amongTheChangesAlone();
    changesAreNoRefusals();
    changedNone();
    changedOne();
    changedTwo();
    ofTwoUnlikeOnes();
    changedNever();
    changedByATenth();
    changedToNoneLeft();
    luckOfNobody();
    luckByTooFewOrMany();
    luckOther();
    theFirstRefusalOfLuck();
    luckBy0();
    luckBy8();
    heStaysForGood();
    inLeastTerms();
    putBehindNobody();
    putTooFewOrMany();
    putInAFullRow();
    theFirstRefusalOfPut();
    putOf1And9();
    putIsOfKindS();
    numbersBehindIt1More();
    shutNobody();
    shutTheOnlyOne();
    numbersBehindIt1Less();
    alikeTooFewOrMany();
    theFirstRefusalOfAlike();
    alikeAll();
    Due.end();
  }

  private static void due(String call, long got, long want) {
    Due.due(call, got, want);
  }

  // 16: "-1"
  private static void moreOfNobody() {
    StopsByLetters x = Due.with(CHAIN);
    for (int station : NOBODY) due("16: more(" + station + ", 1)", x.more(station, 1), MORE + 1);
    due("16: counted", x.count(11), NOBODY.length);
    due("16: of none", new StopsByLetters().more(0, 1), MORE + 1);
    due("16: the one behind the last", Due.with("ss=ab;").more(1, 0), MORE + 1);
  }

  // 16: "-2"
  private static void moreOther() {
    StopsByLetters x = Due.with("ss=ab;");
    for (int is : OTHERS) due("16: more(0, " + is + ")", x.more(0, is), MORE + 2);
    due("16: counted", x.count(12), OTHERS.length);
  }

  // 16: "-3 it has one"
  private static void moreOfTheLastLetter() {
    StopsByLetters x = Due.with(CHAIN);
    for (int i = 0; i < 8; i++) due("16: one less of one", x.more(i, 0), MORE + 3);
    due("16: counted", x.count(13), 8);
    Due.tell(x, "n7=aa;");
    due("16: one less of two", x.more(7, 0), 0);
    due("16: one more of one is none", x.more(0, 1), 1);
    due("16: counted", x.count(13), 8);
  }

  // 16: "Refused as told: -1; -2; -3"
  private static void theFirstRefusalOfMore() {
    StopsByLetters x = Due.with("ss=a;");
    due("16: nobody and other", x.more(1, 2), MORE + 1);
    due("16: other, and it has one", x.more(0, -1), MORE + 2);
    due("16: counted", 100 * x.count(11) + 10 * x.count(12) + x.count(13), 110);
  }

  // Terms: "one has an "a" more at its end (a tenth, too)"
  private static void aTenthLetterToo() {
    StopsByLetters x = Due.with(TENTH);
    due("16: nine lead nowhere", x.never(), 6);
    due("16: a tenth", x.more(0, 1), -6);
    due("16: eight lead to itself", x.more(0, 0), 0);
    due("16: nine it has", x.station(0, 1), 9);
    // Round 8 a joined one rides 18 stops, which is 2, and with a tenth letter 3: to 3, which leads to 4.
    StopsByLetters joined = Due.with("sj=aaaaaaaaa;sf=aaaaaaaaa;sv=b;sf=a;" + "sv=b;".repeat(4) + "r;");
    due("16: 0 to 2 and 6, 1 to 2, 3 to 4", joined.never(), 52);
    due("16: 0 to 3, 4, 5", joined.more(0, 1), -1);
    due("16: 0 to 3, 4, 5, and 1 to 3, 4", joined.more(1, 1), -2);
  }

  // Terms: "or one less there (at least one is left)"
  private static void atLeastOneIsLeft() {
    StopsByLetters x = Due.with("sf=aa;sf=a;r;");
    due("16: 0 rides to itself", x.never(), 1);
    due("16: one is left", x.more(0, 0), -1);
    due("16: none would be left", x.more(1, 0), MORE + 3);
  }

  // Terms: "how many pairs NEVER more there are then (may be below 0)"
  private static void neverBelow0() {
    StopsByLetters x = Due.with("ss=aa;ss=a;");
    due("16: below 0", x.more(0, 0), -1);
    due("16: 0", x.more(0, 1), 0);
    due("16: above 0", x.more(1, 1), 1);
    // 1 leads to 2, .. 7, 0; 0 to itself, with a letter less to 7: all but 1 lack those ahead of them.
    StopsByLetters round = Due.with("sf=aaaaaaaa;" + "sf=a;".repeat(7) + "r;");
    due("16: 7 + 1 + .. + 6 pairs", round.never(), 28);
    due("16: a letter less, 0 to 7", round.more(0, 0), -1);
    due("16: a letter more, 0 to 1", round.more(0, 1), -28);
    due("16: a letter more, 0 to itself", Due.with(CHAIN + "r;n0=aaaaaaa;").more(0, 1), 1);
  }

  // Terms: "an "a" more at its end": it is a vowel, and the last letter
  private static void anAAtItsEnd() {
    StopsByLetters vowels = Due.with("sv=b;ss=a;");
    due("16: no vowels", vowels.never(), 1);
    due("16: a vowel more", vowels.more(0, 1), -1);
    StopsByLetters last = Due.with("sl=c;ss=a;");
    due("16: 3 stops lead nowhere", last.never(), 1);
    due("16: 1 stop", last.more(0, 1), -1);
    StopsByLetters even = Due.with("se=a;ss=a;ss=a;ss=aaa;");
    due("16: odd, nowhere; 3 to 0 alone", even.never(), 5);
    due("16: even, 0 to 2", even.more(0, 1), -5);
  }

  // Terms: "an "a" more at its end", where the NAME was longer before
  private static void anAWhereAnotherWas() {
    StopsByLetters vowels = Due.with("sv=zzzzzzzzz;ss=a;n0=b;");
    due("16: ba has a vowel", vowels.more(0, 1), -1);
    StopsByLetters last = Due.with("sl=zzzzzzzzz;ss=a;n0=c;");
    due("16: ca has an a for its last", last.more(0, 1), -1);
    due("17: ca has an a for its last", last.worst(1), 1);
    due("18: ca has an a for its last", last.changed(), 1);
    StopsByLetters none = Due.with("sv=aeioueioa;ss=a;n0=b;");
    due("15: b has no vowel", none.never(), 1);
    due("16: ba has no more than one", none.more(0, 1), -1);
  }

  // Terms: "or one less there"
  private static void oneLessAtItsEnd() {
    due("16: the letter before is the last", Due.with("sl=az;ss=a;").more(0, 0), -1);
    due("16: a vowel less", Due.with("sv=ba;ss=a;").more(0, 0), 1);
    due("16: no vowel less", Due.with("sv=ab;ss=a;").more(0, 0), 0);
    // 0 rides 3 stops with 1's two letters, 2 with one.
    StopsByLetters joined = Due.with("sj=b;sv=ab;ss=bb;");
    due("16: 0 nowhere, 1 to 0 and 2, 2 to 0", joined.never(), 3);
    due("16: of the next one, 0 to 2", joined.more(1, 0), -1);
  }

  // Terms: "NAMES as they are"
  private static void namesAsTheyAre() {
    StopsByLetters x = Due.with("sl=bz;sv=abcdefghi;sj=q;r;");
    x.more(0, 0);
    x.more(1, 1);
    x.more(2, 1);
    x.worst(0);
    x.worst(1);
    x.changed();
    x.putIn(0, 9);
    x.shut(0);
    due("16: letters", 100 * x.station(0, 1) + 10 * x.station(1, 1) + x.station(2, 1), 291);
    due("16: the last ones", 100 * x.name(0, 1) + 10 * x.name(1, 8) + x.name(2, 0), 2596);
    due("16: no tenth", x.name(1, 9), -1);
    due("16: stations", x.count(0), 3);
  }

  // 17: "-2."
  private static void worstOther() {
    StopsByLetters x = Due.with(CHAIN);
    for (int least : OTHERS) due("17: worst(" + least + ")", x.worst(least), -2);
    due("17: counted", x.count(12), OTHERS.length);
    due("17: of none", new StopsByLetters().worst(2), -2);
  }

  // Terms: "-9 there are none."
  private static void worstOfNone() {
    StopsByLetters x = new StopsByLetters();
    due("17: worst(0)", x.worst(0), -9);
    due("17: worst(1)", x.worst(1), -9);
    for (int what = 11; what <= 16; what++) due("17: that is no refusal", x.count(what), 0);
    due("17: of one letter a letter more is one", Due.with("ss=a;").worst(0), 1);
    due("17: of two a letter less", Due.with("ss=aa;").worst(1), 0);
  }

  // Terms: "of several the least"
  private static void severalTheLeast() {
    due("17: all alike, one less of 0", Due.with("ss=aaaaaaaaa;".repeat(8)).worst(0), 0);
    due("17: all alike, one less of 0", Due.with("ss=aaaaaaaaa;".repeat(8)).worst(1), 0);
    due("17: all alike, one more of 0", Due.with(CHAIN + "r;").worst(0), 1);
    // 0 with one letter can't have one less: 1 has the first of the least ones.
    due("17: one of two alike", Due.with("sv=b;sf=aaa;sv=b;").worst(1), 1);
    due("17: less and more alike", Due.with("sf=a;ss=aaa;r;").worst(0), 1);
    due("17: less and more alike", Due.with("ss=a;sf=aaa;r;").worst(1), 1);
  }

  // Terms: "told as 10 times the one and the other"
  private static void tenTimesTheOneAndTheOther() {
    // The last rides to itself: with an "a" more back to 6, and there is no other change that is good for anything.
    due("17: the last, one more", Due.with("sf=a;".repeat(7) + "sv=b;").worst(1), 71);
    due("17: the last, one less", Due.with("sf=a;".repeat(7) + "ss=aaaaaaaaa;").worst(1), 70);
    // In a row of which all but the last two ride to themselves, 6 alone has a ride to lose.
    due("17: one more of 6", Due.with("sv=b;".repeat(6) + "sf=a;sf=a;").worst(0), 61);
    due("17: one less of 6", Due.with("sv=b;".repeat(6) + "sv=ba;sl=b;").worst(0), 60);
  }

  // Terms: "WORST: the STATION and 1 or 0 by which NEVER is greatest .. BEST: by which it is least"
  private static void amongTheChangesAlone() {
    // All come to all now, and by no change.
    StopsByLetters good = Due.with("ss=a;ss=a;r;");
    due("17: worse than now", good.worst(1), 1);
    // None comes to another now; by each change one does.
    StopsByLetters bad = Due.with("ss=aa;ss=aa;r;");
    due("17: better than now", bad.worst(0), 0);
    StopsByLetters three = Due.with("ss=a;ss=a;ss=a;");
    due("17: 1 leads nowhere then", three.worst(0), 11);
    due("17: 0 leads to 2 then, and all is well", three.worst(1), 1);
  }

  // Terms: "nothing changes but how many there were": what is only tried is no refusal
  private static void changesAreNoRefusals() {
    StopsByLetters x = Due.with(CHAIN);
    x.worst(0);
    x.worst(1);
    x.changed();
    for (int what = 11; what <= 16; what++) due("17: count(" + what + ")", x.count(what), 0);
  }

  // Terms: "CHANGED: the fewest of these changes (0, ..)"
  private static void changedNone() {
    due("18: of none", new StopsByLetters().changed(), 0);
    due("18: alone", Due.with("ss=aaaaaaaaa;").changed(), 0);
    due("18: all together", Due.with(CHAIN + "r;").changed(), 0);
  }

  // Terms: "(.. 1 ..; of one STATION, ..)": each of eight
  private static void changedOne() {
    for (int i = 0; i < 8; i++) {
      // Round 8 all go one forward, but i: 8 stops are to itself, 2 leave the next one out.
      due("18: one more of " + i, Due.with(CHAIN + "r;n" + i + "=aaaaaaaa;").changed(), 1);
      due("18: one less of " + i, Due.with(CHAIN + "r;n" + i + "=aa;").changed(), 1);
      StopsByLetters last = Due.with(CHAIN + "r;n" + i + "=h;");
      last.kind(i, 5);
      due("18: an a at the end of " + i, last.changed(), 1);
      StopsByLetters even = Due.with(CHAIN + "r;n" + i + "=bbb;");
      even.kind(i, 4);
      due("18: neither of " + i, even.changed(), -9);
    }
    due("18: one less", Due.with("ss=aa;ss=a;").changed(), 1);
    due("18: one less of the last", Due.with("ss=a;ss=aa;").changed(), 1);
  }

  // Terms: "(.. 2; .. or of two unlike ones)": each two of eight
  private static void changedTwo() {
    for (int i = 0; i < 8; i++) {
      for (int j = i + 1; j < 8; j++) {
        StopsByLetters x = Due.with(CHAIN + "r;n" + i + "=aaaaaaaa;n" + j + "=aaaaaaaa;");
        due("18: one more of " + i + " and " + j, x.changed(), 2);
        // Round 8 the stops must be a multiple of 8 in all: two less, or one less and one more.
        StopsByLetters less = Due.with(CHAIN + "r;n" + i + "=aa;n" + j + "=aa;");
        due("18: one less of " + i + " and " + j, less.changed(), 2);
        StopsByLetters both = Due.with(CHAIN + "r;n" + i + "=aa;n" + j + "=aaaaaaaa;");
        due("18: one less of " + i + ", one more of " + j, both.changed(), 2);
      }
    }
    due("18: two more", Due.with("sv=b;sv=b;").changed(), 2);
    due("18: two less", Due.with("ss=aa;ss=aa;").changed(), 2);
    due("18: one less and one more", Due.with("ss=aa;sv=b;").changed(), 2);
    due("18: one more and one less", Due.with("sv=b;ss=aa;").changed(), 2);
  }

  // Terms: "of two unlike ones"
  private static void ofTwoUnlikeOnes() {
    due("18: two less of the first", Due.with("ss=aaa;ss=a;").changed(), -9);
    due("18: two less of the second", Due.with("ss=a;ss=aaa;").changed(), -9);
    // Even needs two more: 0 to 2.
    due("18: two more of the first", Due.with("se=b;ss=a;ss=a;ss=aaa;").changed(), -9);
  }

  // 18: "-9"
  private static void changedNever() {
    due("18: three would be needed", Due.with("sv=b;sv=b;sv=b;").changed(), -9);
    due("18: no change helps", Due.with("ss=aaaaaaaaa;".repeat(8)).changed(), -9);
    StopsByLetters x = Due.with(CHAIN);
    due("18: a row forward", x.changed(), -9);
    for (int what = 11; what <= 16; what++) due("18: that is no refusal", x.count(what), 0);
  }

  // Terms: "(a tenth, too)"
  private static void changedByATenth() {
    due("18: a tenth", Due.with(TENTH).changed(), 1);
    due("17: a tenth", Due.with(TENTH).worst(1), 1);
  }

  // Terms: "(at least one is left)"
  private static void changedToNoneLeft() {
    // With no letter 0 would ride one stop, the next one's letter.
    StopsByLetters x = Due.with("sj=a;ss=a;");
    due("18: 0 leads nowhere", x.never(), 1);
    due("18: none left is no change", x.changed(), -9);
    due("17: none left is no change", x.worst(1), 1);
  }

  // 19: "-1 either"
  private static void luckOfNobody() {
    StopsByLetters x = Due.with(CHAIN);
    for (int station : NOBODY) {
      due("19: from " + station, x.luck(station, 0, 1, 0), LONG + 1);
      due("19: to " + station, x.luck(0, station, 1, 1), LONG + 1);
    }
    due("19: counted", x.count(11), 2 * NOBODY.length);
    due("19: of none", new StopsByLetters().luck(0, 0, 0, 0), LONG + 1);
  }

  // 19: "-4; -6 8"
  private static void luckByTooFewOrMany() {
    StopsByLetters x = Due.with(CHAIN);
    due("19: by -1", x.luck(0, 0, -1, 0), LONG + 4);
    due("19: by the least", x.luck(0, 0, Integer.MIN_VALUE, 0), LONG + 4);
    due("19: by 9", x.luck(0, 0, 9, 0), LONG + 6);
    due("19: by the greatest", x.luck(0, 0, Integer.MAX_VALUE, 0), LONG + 6);
    due("19: counted", 10 * x.count(14) + x.count(16), 22);
  }

  // 19: "-2."
  private static void luckOther() {
    StopsByLetters x = Due.with(CHAIN);
    for (int part : OTHERS) due("19: part " + part, x.luck(0, 0, 8, part), LONG + 2);
    due("19: counted", x.count(12), OTHERS.length);
  }

  // 19: "Refused as told: -1 either; -4; -6 8; -2."
  private static void theFirstRefusalOfLuck() {
    StopsByLetters x = Due.with(CHAIN);
    due("19: from nobody, below, other", x.luck(8, 0, -1, 2), LONG + 1);
    due("19: to nobody, above, other", x.luck(0, 8, 9, 2), LONG + 1);
    due("19: below, other", x.luck(0, 0, -1, 2), LONG + 4);
    due("19: above, other", x.luck(0, 0, 9, -1), LONG + 6);
    due("19: counted", 1000 * x.count(11) + 100 * x.count(12) + 10 * x.count(14) + x.count(16), 2011);
  }

  // Terms: "one RIDES n times (0 .. 8)": 0
  private static void luckBy0() {
    StopsByLetters x = Due.with("ss=a;".repeat(8) + "r;");
    for (int from = 0; from < 8; from++) {
      for (int to = 0; to < 8; to++) {
        due("19: above", x.luck(from, to, 0, 0), from == to ? 1 : 0);
        due("19: below", x.luck(from, to, 0, 1), 1);
      }
    }
  }

  // Terms: "one RIDES n times (0 .. 8)": 8
  private static void luckBy8() {
    StopsByLetters x = Due.with("ss=a;".repeat(8) + "r;");
    // Of 256 ways 70 + 1 + 1 are 0, 8 or -8 off, 56 + 8 are 2 or -6 off, 28 + 28 are 4 or -4 off.
    long[] above = {9, 0, 1, 0, 7, 0, 1, 0};
    long[] below = {32, 1, 4, 1, 32, 1, 4, 1};
    for (int to = 0; to < 8; to++) {
      due("19: above, to " + to, x.luck(0, to, 8, 0), above[to]);
      due("19: below, to " + to, x.luck(0, to, 8, 1), below[to]);
    }
    StopsByLetters three = Due.with("ss=a;ss=a;ss=a;r;");
    due("19: the greatest below", three.luck(0, 1, 8, 1), 256);
    due("19: (2^8 - 1) / 3 above", three.luck(0, 1, 8, 0), 85);
  }

  // Terms: "(none: he stays for good)"
  private static void heStaysForGood() {
    StopsByLetters chain = Due.with(CHAIN);
    for (int n = 0; n <= 8; n++) {
      due("19: at the end by " + n, chain.luck(0, 7, n, 0), n < 7 ? 0 : 1);
      due("19: from the end by " + n, chain.luck(7, 7, n, 0), 1);
      due("19: for sure", chain.luck(7, 7, n, 1), 1);
    }
    // From 1 each second time to 2, which leads nowhere.
    StopsByLetters x = Due.with("ss=a;ss=a;se=a;");
    long[] above = {0, 0, 1, 1, 3, 3, 7, 7, 15};
    long[] below = {1, 1, 2, 2, 4, 4, 8, 8, 16};
    for (int n = 0; n <= 8; n++) {
      due("19: above, by " + n, x.luck(0, 2, n, 0), above[n]);
      due("19: below, by " + n, x.luck(0, 2, n, 1), below[n]);
    }
  }

  // Terms: "in least terms"
  private static void inLeastTerms() {
    StopsByLetters x = Due.with("ss=a;ss=a;ss=a;r;");
    // To 0 by n: (2^n + 2 or - 2) / 3 of 2^n.
    long[] above = {1, 0, 1, 1, 3, 5, 11, 21, 43};
    long[] below = {1, 1, 2, 4, 8, 16, 32, 64, 128};
    for (int n = 0; n <= 8; n++) {
      due("19: above, by " + n, x.luck(0, 0, n, 0), above[n]);
      due("19: below, by " + n, x.luck(0, 0, n, 1), below[n]);
    }
    StopsByLetters row = Due.with("ss=a;ss=a;ss=a;");
    due("19: 0 by 1, above", row.luck(0, 0, 7, 0), 0);
    due("19: 0 by 1, below", row.luck(0, 0, 7, 1), 1);
    due("19: 1 by 1, above", row.luck(0, 1, 7, 0), 1);
    due("19: 1 by 1, below", row.luck(0, 1, 7, 1), 1);
    due("19: half, above", row.luck(0, 2, 8, 0), 1);
    due("19: half, below", row.luck(0, 2, 8, 1), 2);
  }

  // 20: "-1"
  private static void putBehindNobody() {
    StopsByLetters x = Due.with("ss=a;".repeat(7));
    int[] nobody = {-1, 7, 8, Integer.MIN_VALUE, Integer.MAX_VALUE};
    for (int station : nobody) due("20: putIn(" + station + ", 1)", x.putIn(station, 1), -1);
    due("20: counted", x.count(11), nobody.length);
    due("20: of none", new StopsByLetters().putIn(0, 1), -1);
    due("20: ahead of all", Due.with("ss=a;").putIn(-1, 1), -1);
  }

  // 20: "-4; -6 (9; ..)"
  private static void putTooFewOrMany() {
    StopsByLetters x = Due.with("ss=a;");
    due("20: of 0", x.putIn(0, 0), -4);
    due("20: of -1", x.putIn(0, -1), -4);
    due("20: of the least", x.putIn(0, Integer.MIN_VALUE), -4);
    due("20: of 10", x.putIn(0, 10), -6);
    due("20: of the greatest", x.putIn(0, Integer.MAX_VALUE), -6);
    due("20: counted", 10 * x.count(14) + x.count(16), 32);
  }

  // 20: "-6 (..; 8 STATIONS)"
  private static void putInAFullRow() {
    StopsByLetters seven = Due.with("ss=a;".repeat(7));
    for (int i = 0; i < 7; i++) due("20: an eighth behind " + i, seven.putIn(i, 1), 0);
    StopsByLetters full = Due.with("ss=a;".repeat(8));
    for (int i = 0; i < 8; i++) due("20: a ninth behind " + i, full.putIn(i, 1), -6);
    due("20: counted", full.count(16), 8);
    due("20: nothing changes", full.count(0), 8);
  }

  // Terms: "the first that fits in the order in which it tells them"; 20: "-1; -4; -6"
  private static void theFirstRefusalOfPut() {
    StopsByLetters x = Due.with("ss=a;".repeat(8));
    due("20: nobody and below", x.putIn(8, 0), -1);
    due("20: nobody and above", x.putIn(-1, 10), -1);
    due("20: below and no room", x.putIn(0, 0), -4);
    due("20: above and no room", x.putIn(0, 10), -6);
    due("20: counted", 100 * x.count(11) + 10 * x.count(14) + x.count(16), 211);
  }

  // Terms: "NAME of so many "a" (1 .. 9)"
  private static void putOf1And9() {
    // Round 8 all go one forward, but the one put in, 4, goes so many forward or back: to 3 or 5 all come to all;
    // to 6 none but 5 comes to 5; to 7 none to 5 and 6, but 5 to 6; to 0 likewise 5, 6, 7; by 8 it stays.
    StopsByLetters x = Due.with("sf=a;".repeat(7) + "r;");
    int[] never = {0, 7, 13, 18, 13, 7, 0, 28, 0};
    for (int letters = 1; letters <= 9; letters++) due("20: of " + letters, x.putIn(3, letters), never[letters - 1]);
    StopsByLetters row = Due.with("sv=b;".repeat(7));
    // All others stay; 7 comes so many back to one, by 8 and 9 to none.
    for (int letters = 1; letters <= 9; letters++) due("20: back by " + letters, row.putIn(6, letters), letters < 8 ? 55 : 56);
  }

  // Terms: "a STATION more (KIND s, ..)"
  private static void putIsOfKindS() {
    due("20: back one, 1 and 2 not to 0", Due.with("sf=a;sf=a;").putIn(1, 1), 2);
    due("20: back two, round", Due.with("sf=a;sf=a;").putIn(1, 2), 0);
    due("20: forward and back", Due.with("sf=a;ss=a;").putIn(0, 1), 0);
  }

  // Terms: "behind a told one (numbers behind it 1 more)"
  private static void numbersBehindIt1More() {
    StopsByLetters x = Due.with("sf=aa;sf=aaa;sv=b;");
    due("20: behind 0: 0 to 2, which was 1", x.putIn(0, 3), 11);
    due("20: behind 1: 0 to 2, the one put in, that to 1 and 3", x.putIn(1, 1), 7);
    due("20: behind 2: 0 to 2 as before", x.putIn(2, 9), 11);
    due("20: nothing changes", 100 * x.count(0) + 10 * x.station(1, 1) + x.station(2, 1), 331);
    // A ring is by one longer then.
    StopsByLetters ring = Due.with("sf=aa;r;");
    due("20: a ring of two", ring.putIn(0, 1), 1);
    due("20: a ring of two", Due.with("sf=a;r;").putIn(0, 9), 0);
  }

  // 21: "-1."
  private static void shutNobody() {
    StopsByLetters x = Due.with(CHAIN);
    for (int station : NOBODY) due("21: shut(" + station + ")", x.shut(station), -1);
    due("21: counted", x.count(11), NOBODY.length);
    due("21: of none", new StopsByLetters().shut(0), -1);
    due("21: the one behind the last", Due.with("ss=a;").shut(1), -1);
  }

  // Terms: "SHUT: one taken out": the only one, and each of eight
  private static void shutTheOnlyOne() {
    StopsByLetters alone = Due.with("ss=a;r;");
    due("21: none is left", alone.shut(0), 0);
    due("21: it is there still", alone.count(0), 1);
    StopsByLetters full = Due.with(CHAIN);
    for (int i = 0; i < 8; i++) due("21: seven are left", full.shut(i), 21);
    due("21: eight are there still", full.count(0), 8);
  }

  // Terms: "(numbers behind it 1 less)"
  private static void numbersBehindIt1Less() {
    // 0 leads to 2; without 1 that one is 1, and 3 is 2.
    StopsByLetters x = Due.with("sf=aa;sv=b;ss=a;ss=aa;");
    due("21: 0 to 2, 2 to 1 and 3, 3 to 1", x.never(), 6);
    due("21: without 0: 1 to 0 and 2, 2 to 0", x.shut(0), 3);
    due("21: without 1: 0 to 2, 1 to 0 and 2, 2 to 0", x.shut(1), 2);
    due("21: without 2: 0 to 2, 2 to 0", x.shut(2), 4);
    due("21: without 3: 0 to 2, 2 to 1", x.shut(3), 3);
    // In a ring all ride round one less: 2 stops forward are one back then.
    due("21: a ring of two", Due.with("ss=aa;ss=aa;ss=aa;r;").shut(2), 2);
    // The last one is joined with the first that is left.
    StopsByLetters joined = Due.with("ss=aaa;ss=a;sj=a;");
    due("21: joined, 2 stops of 3", joined.never(), 4);
    due("21: joined with 1", joined.shut(0), 1);
  }

  // 22: "-4; -6 (60; 99)."
  private static void alikeTooFewOrMany() {
    StopsByLetters x = new StopsByLetters();
    int[] below = {0, -1, Integer.MIN_VALUE};
    for (int few : below) {
      due("22: alike(" + few + ", 1)", x.alike(few, 1), -4);
      due("22: alike(1, " + few + ")", x.alike(1, few), -4);
    }
    due("22: alike(61, 99)", x.alike(61, 99), -6);
    due("22: alike(60, 100)", x.alike(60, 100), -6);
    due("22: alike(greatest, 1)", x.alike(Integer.MAX_VALUE, 1), -6);
    due("22: alike(1, greatest)", x.alike(1, Integer.MAX_VALUE), -6);
    due("22: counted", 10 * x.count(14) + x.count(16), 64);
  }

  // Terms: "the first that fits in the order in which it tells them"; 22: "-4; -6"
  private static void theFirstRefusalOfAlike() {
    StopsByLetters x = new StopsByLetters();
    due("22: above and below", x.alike(61, 0), -4);
    due("22: below and above", x.alike(0, 100), -4);
    due("22: counted", 10 * x.count(14) + x.count(16), 20);
  }

  // Terms: "ALIKE: of a RING of n STATIONS (1 .. 60) of KIND s, all of so many LETTERS (1 .. 99): how many PARTS."
  private static void alikeAll() {
    for (int n = 1; n <= 60; n++) {
      StopsByLetters x = new StopsByLetters();
      for (int letters = 1; letters <= 99; letters++) due("22: alike(" + n + ", " + letters + ")", x.alike(n, letters), circles(n, letters));
      if (n > 8) continue;
      for (int letters = 1; letters <= 9; letters++) {
        StopsByLetters ring = Due.with(("ss=" + "a".repeat(letters) + ";").repeat(n) + "r;");
        due("22: as in a told ring", x.alike(n, letters), ring.parts(-1));
      }
    }
    StopsByLetters x = new StopsByLetters();
    due("22: the greatest", x.alike(60, 60), 60);
    due("22: both at their greatest", x.alike(60, 99), 3);
    due("22: both at their least", x.alike(1, 1), 1);
  }

  /** How many circles one goes in, so many stops forward again and again. */
  private static int circles(int n, int letters) {
    boolean[] seen = new boolean[n];
    int circles = 0;
    for (int i = 0; i < n; i++) {
      if (!seen[i]) circles++;
      for (int at = i; !seen[at]; at = (at + letters) % n) seen[at] = true;
    }
    return circles;
  }
}
