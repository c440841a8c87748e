import java.math.BigInteger;
import java.util.ArrayList;
import java.util.List;
import java.util.TreeSet;
import java.util.regex.Matcher;
import java.util.regex.Pattern;

/** The document once more, as plainly as can be and by other means than the program's: names as texts, ways walked one by one. */
final class Model {
  private static final String STATEMENT = "(?:s[sfvjel]=[a-z]{1,9}|n[0-9]=[a-z]{1,9}|r|o);";
  private static final Pattern LINE = Pattern.compile("(?:" + STATEMENT + ")+");

  record Stop(String name, char kind) {}

  record Told(List<Stop> stops, boolean ring) {
    Told with(int i, Stop stop) {
      List<Stop> next = new ArrayList<>(stops);
      next.set(i, stop);
      return new Told(next, ring);
    }

    Told with(int i, String name) {
      return with(i, new Stop(name, stops.get(i).kind()));
    }
  }

  private Told told = new Told(new ArrayList<>(), false);
  private Told image = null;
  private String text = "";
  private final List<Integer> row = new ArrayList<>();
  private final int[] refusals = new int[7];

  private static int size(Told t) {
    return t.stops().size();
  }

  private boolean lacks(int station) {
    return station < 0 || station >= size(told);
  }

  private int no(int number) {
    refusals[-number]++;
    return number;
  }

  private long longNo(int number) {
    return 4000000000000000000L - no(number);
  }

  int letter(int c) {
    if (c < 0) return no(-4);
    if (c > 255 || text.length() == 96) return no(-6);
    text += (char) c;
    return text.length();
  }

  int line() {
    String line = text;
    text = "";
    for (int i = 0; i < line.length(); i++) {
      Matcher m = LINE.matcher(line.substring(0, i + 1));
      if (!m.matches() && !m.hitEnd()) return -1000 - i;
    }
    if (!LINE.matcher(line).matches()) return -1000 - line.length();
    Told next = told;
    int place = 0;
    int statements = 0;
    for (String s : line.split(";")) {
      if (s.equals("r")) next = new Told(next.stops(), true);
      else if (s.equals("o")) next = new Told(next.stops(), false);
      else if (s.charAt(0) == 's') {
        if (size(next) == 8) return -2000 - place;
        List<Stop> more = new ArrayList<>(next.stops());
        more.add(new Stop(s.substring(3), s.charAt(1)));
        next = new Told(more, next.ring());
      } else {
        int station = s.charAt(1) - '0';
        if (station >= size(next)) return -2000 - place;
        next = next.with(station, s.substring(3));
      }
      place += s.length() + 1;
      statements++;
    }
    told = next;
    return statements;
  }

  private static int stops(Told t, int i) {
    Stop stop = t.stops().get(i);
    String name = stop.name();
    switch (stop.kind()) {
      case 'v': case 'e': return name.replaceAll("[^aeiou]", "").length();
      case 'j': return name.length() + t.stops().get((i + 1) % size(t)).name().length();
      case 'l': return name.charAt(name.length() - 1) - 'a' + 1;
      default: return name.length();
    }
  }

  private static TreeSet<Integer> rides(Told t, int i) {
    TreeSet<Integer> to = new TreeSet<>();
    char kind = t.stops().get(i).kind();
    int stops = stops(t, i);
    if (kind == 'e' && stops % 2 == 1) return to;
    for (int way = 1; way >= -1; way -= 2) {
      if (way == -1 && (kind == 'f' || kind == 'l')) continue;
      int at = i;
      for (int n = 0; n < stops && at >= 0; n++) {
        at += way;
        if (t.ring()) at = (at + size(t)) % size(t);
        else if (at >= size(t)) at = -1;
      }
      if (at >= 0) to.add(at);
    }
    return to;
  }

  private static int bits(Iterable<Integer> stations) {
    int bits = 0;
    for (int i : stations) bits |= 1 << i;
    return bits;
  }

  private static TreeSet<Integer> reached(Told t, int from) {
    TreeSet<Integer> seen = new TreeSet<>();
    List<Integer> queue = new ArrayList<>(List.of(from));
    while (!queue.isEmpty()) {
      int i = queue.remove(0);
      if (seen.add(i)) queue.addAll(rides(t, i));
    }
    return seen;
  }

  private static int never(Told t) {
    int pairs = 0;
    for (int i = 0; i < size(t); i++) {
      for (int j = 0; j < size(t); j++) if (!reached(t, i).contains(j)) pairs++;
    }
    return pairs;
  }

  int station(int station, int what) {
    if (lacks(station)) return no(-1);
    if (what < 0 || what > 3) return no(-2);
    Stop stop = told.stops().get(station);
    if (what == 0) return "sfvjel".indexOf(stop.kind());
    if (what == 1) return stop.name().length();
    return what == 2 ? bits(rides(told, station)) : stops(told, station);
  }

  int name(int station, int place) {
    if (lacks(station)) return no(-1);
    String name = told.stops().get(station).name();
    if (place < 0 || place >= name.length()) return no(-1);
    return name.charAt(place) - 'a';
  }

  int kind(int station, int v) {
    if (lacks(station)) return no(-1);
    if (v < 0 || v > 5) return no(-2);
    Stop was = told.stops().get(station);
    told = told.with(station, new Stop(was.name(), "sfvjel".charAt(v)));
    return "sfvjel".indexOf(was.kind());
  }

  int form(int v) {
    if (v != 0 && v != 1) return no(-2);
    int was = told.ring() ? 1 : 0;
    told = new Told(told.stops(), v == 1);
    return was;
  }

  int few(int from, int to) {
    if (lacks(from) || lacks(to)) return no(-1);
    for (int n = 0; n <= 8; n++) if (walks(from, to, n).signum() > 0) return n;
    return -9;
  }

  private BigInteger walks(int from, int to, int n) {
    BigInteger[][] power = new BigInteger[size(told)][size(told)];
    for (int i = 0; i < size(told); i++) {
      for (int j = 0; j < size(told); j++) power[i][j] = i == j ? BigInteger.ONE : BigInteger.ZERO;
    }
    for (int ride = 0; ride < n; ride++) {
      BigInteger[][] next = new BigInteger[size(told)][size(told)];
      for (int i = 0; i < size(told); i++) {
        for (int j = 0; j < size(told); j++) {
          next[i][j] = BigInteger.ZERO;
          for (int k : rides(told, i)) next[i][j] = next[i][j].add(power[k][j]);
        }
      }
      power = next;
    }
    return power[from][to];
  }

  long ways(int from, int to, int n) {
    if (lacks(from) || lacks(to)) return longNo(-1);
    if (n < 0) return longNo(-4);
    if (n > 20) return longNo(-6);
    return walks(from, to, n).longValueExact();
  }

  int whither(int station) {
    return lacks(station) ? no(-1) : bits(reached(told, station));
  }

  int whence(int station) {
    if (lacks(station)) return no(-1);
    int bits = 0;
    for (int i = 0; i < size(told); i++) if (reached(told, i).contains(station)) bits |= 1 << i;
    return bits;
  }

  int blind() {
    int bits = 0;
    for (int i = 0; i < size(told); i++) {
      boolean led = false;
      for (int j = 0; j < size(told); j++) led |= j != i && rides(told, j).contains(i);
      if (!led) bits |= 1 << i;
    }
    return bits;
  }

  int dead() {
    int bits = 0;
    for (int i = 0; i < size(told); i++) {
      TreeSet<Integer> others = rides(told, i);
      others.remove(i);
      if (others.isEmpty()) bits |= 1 << i;
    }
    return bits;
  }

  private static int part(Told t, int station) {
    int bits = 0;
    for (int i = 0; i < size(t); i++) {
      if (reached(t, i).contains(station) && reached(t, station).contains(i)) bits |= 1 << i;
    }
    return bits;
  }

  private static int parts(Told t) {
    TreeSet<Integer> parts = new TreeSet<>();
    for (int i = 0; i < size(t); i++) parts.add(part(t, i));
    return parts.size();
  }

  int parts(int station) {
    if (station == -1) return parts(told);
    return lacks(station) ? no(-1) : part(told, station);
  }

  int never() {
    return never(told);
  }

  private static Told changed(Told t, int station, int is) {
    String name = t.stops().get(station).name();
    if (is == 1) return t.with(station, name + "a");
    return name.length() == 1 ? null : t.with(station, name.substring(0, name.length() - 1));
  }

  int more(int station, int is) {
    if (lacks(station)) return 1000000000 - no(-1);
    if (is != 0 && is != 1) return 1000000000 - no(-2);
    Told next = changed(told, station, is);
    return next == null ? 1000000000 - no(-3) : never(next) - never(told);
  }

  int worst(int least) {
    if (least != 0 && least != 1) return no(-2);
    TreeSet<Integer> ranks = new TreeSet<>();
    for (int i = 0; i < size(told); i++) {
      for (int is = 0; is <= 1; is++) {
        Told next = changed(told, i, is);
        if (next != null) ranks.add((least == 1 ? never(next) : 56 - never(next)) * 100 + 10 * i + is);
      }
    }
    return ranks.isEmpty() ? -9 : ranks.first() % 100;
  }

  int changed() {
    if (never(told) == 0) return 0;
    int fewest = 3;
    for (int i = 0; i < size(told); i++) {
      for (int is = 0; is <= 1; is++) {
        Told one = changed(told, i, is);
        if (one == null) continue;
        if (never(one) == 0) fewest = 1;
        for (int j = 0; j < i && fewest > 2; j++) {
          for (int other = 0; other <= 1; other++) {
            Told two = changed(one, j, other);
            if (two != null && never(two) == 0) fewest = 2;
          }
        }
      }
    }
    return fewest == 3 ? -9 : fewest;
  }

  private BigInteger[] likely(int at, int to, int n) {
    if (n == 0) return new BigInteger[] {at == to ? BigInteger.ONE : BigInteger.ZERO, BigInteger.ONE};
    TreeSet<Integer> next = rides(told, at);
    if (next.isEmpty()) return likely(at, to, n - 1);
    BigInteger above = BigInteger.ZERO;
    BigInteger below = BigInteger.ONE;
    for (int i : next) {
      BigInteger[] one = likely(i, to, n - 1);
      BigInteger under = one[1].multiply(BigInteger.valueOf(next.size()));
      above = above.multiply(under).add(one[0].multiply(below));
      below = below.multiply(under);
      BigInteger common = above.gcd(below);
      above = above.divide(common);
      below = below.divide(common);
    }
    return new BigInteger[] {above, below};
  }

  long luck(int from, int to, int n, int part) {
    if (lacks(from) || lacks(to)) return longNo(-1);
    if (n < 0) return longNo(-4);
    if (n > 8) return longNo(-6);
    if (part != 0 && part != 1) return longNo(-2);
    return likely(from, to, n)[part].longValueExact();
  }

  int putIn(int station, int letters) {
    if (lacks(station)) return no(-1);
    if (letters < 1) return no(-4);
    if (letters > 9 || size(told) == 8) return no(-6);
    List<Stop> next = new ArrayList<>(told.stops());
    next.add(station + 1, new Stop("a".repeat(letters), 's'));
    return never(new Told(next, told.ring()));
  }

  int shut(int station) {
    if (lacks(station)) return no(-1);
    List<Stop> next = new ArrayList<>(told.stops());
    next.remove(station);
    return never(new Told(next, told.ring()));
  }

  int alike(int n, int letters) {
    if (n < 1 || letters < 1) return no(-4);
    if (n > 60 || letters > 99) return no(-6);
    // Forward alone comes to the same parts: a ring brings one back.
    TreeSet<Integer> least = new TreeSet<>();
    for (int i = 0; i < n; i++) {
      int lowest = i;
      for (int at = (i + letters) % n; at != i; at = (at + letters) % n) lowest = Math.min(lowest, at);
      least.add(lowest);
    }
    return least.size();
  }

  int row(int v) {
    if (v < 0) return no(-4);
    if (v > 9 || row.size() == 12) return no(-6);
    row.add(v);
    return row.size();
  }

  private long fitting(Told t, int at, int place) {
    if (row.get(place) != 9 && row.get(place) != at) return 0;
    if (place == row.size() - 1) return 1;
    long ways = 0;
    for (int next : rides(t, at)) ways += fitting(t, next, place + 1);
    return ways;
  }

  private long fitting(Told t) {
    long ways = 0;
    for (int i = 0; i < size(t); i++) ways += fitting(t, i, 0);
    return ways;
  }

  long gotOn(int what) {
    if (what != 0 && what != 1) return longNo(-2);
    if (row.isEmpty()) return longNo(-3);
    if (what == 1) return fitting(told);
    long bits = 0;
    for (int i = 0; i < size(told); i++) if (fitting(told, i, 0) > 0) bits |= 1 << i;
    return bits;
  }

  int misspelt() {
    if (row.isEmpty()) return no(-3);
    if (fitting(told) > 0) return 0;
    int bits = 0;
    for (int i = 0; i < size(told); i++) {
      for (int letters = 1; letters <= 9; letters++) {
        boolean other = letters != told.stops().get(i).name().length();
        if (other && fitting(told.with(i, "a".repeat(letters))) > 0) bits |= 1 << i;
      }
    }
    return bits;
  }

  int judge() {
    int answer = -9;
    for (int i = row.size() - 1; i >= 0; i--) {
      boolean isRide = !lacks(row.get(i));
      if (isRide && i > 0) isRide = !lacks(row.get(i - 1)) && rides(told, row.get(i - 1)).contains(row.get(i));
      if (!isRide) answer = i;
    }
    row.clear();
    return answer;
  }

  int seeds(int station, int n, int z) {
    if (lacks(station)) return no(-1);
    if (n < 1) return no(-4);
    if (n > 60) return no(-6);
    int at = station;
    int seed = z;
    for (int i = 0; i < n && !rides(told, at).isEmpty(); i++) {
      List<Integer> to = new ArrayList<>(rides(told, at));
      seed = BigInteger.valueOf(seed).multiply(BigInteger.valueOf(1664525)).add(BigInteger.valueOf(1013904223)).intValue();
      long unsigned = seed < 0 ? seed + (1L << 31) : seed;
      at = to.get((int) (unsigned / 256 % to.size()));
    }
    return at;
  }

  int image() {
    image = told;
    return size(told);
  }

  int on() {
    if (image == null) return no(-3);
    told = image;
    return size(told);
  }

  int count(int what) {
    int sum = 0;
    switch (what) {
      case 0: return size(told);
      case 1: for (Stop s : told.stops()) sum += s.name().length(); return sum;
      case 2: return told.ring() ? 1 : 0;
      case 3: for (int i = 0; i < size(told); i++) sum += rides(told, i).size(); return sum;
      case 4: return row.size();
      case 5: return text.length();
      default: return what >= 11 && what <= 16 ? refusals[what - 10] : -9;
    }
  }
}
