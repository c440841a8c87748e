/** Stations in a row or a ring, from each of which one rides as many stops as its name has letters. */
public final class StopsByLetters {
  private static final int MOST_STATIONS = 8;
  private static final int MOST_SIGNS = 96;
  private static final int MOST_NAMED = 9;
  private static final int MOST_WAYS = 20;
  private static final int MOST_LOTS = 8;
  private static final int MOST_DRAWS = 60;
  private static final int MOST_SIGHTS = 12;
  private static final int UNSEEN = 9;
  private static final int NONE = -9;
  private static final int NOBODY = -1;
  private static final int OTHER = -2;
  private static final int STATE = -3;
  private static final int BELOW = -4;
  private static final int ROOM = -6;
  private static final int UNREADABLE = -1000;
  private static final int MISPLACED = -2000;
  private static final int REFUSED_MORE = 1000000000;
  private static final long REFUSED_LONG = 4000000000000000000L;

  private final Stations told = new Stations();
  private final Stations tried = new Stations();
  private final Stations kept = new Stations();
  private final Signs signs = new Signs();
  private final Sights sights = new Sights();
  private final Net net = new Net();
  private final int[] refusals = new int[7];
  private boolean isKept;

  public StopsByLetters() {
    isKept = false;
  }

  public int letter(int c) {
    if (c < 0) return refuse(BELOW);
    if (c > 255 || signs.size >= MOST_SIGNS) return refuse(ROOM);
    signs.append(c);
    return signs.size;
  }

  public int line() {
    int answer = readSigns();
    signs.size = 0;
    return answer;
  }

  public int station(int station, int what) {
    if (!told.has(station)) return refuse(NOBODY);
    switch (what) {
      case 0: return told.kinds[station];
      case 1: return told.sizes[station];
      case 2: return told.ridesFrom(station);
      case 3: return told.stopsFrom(station);
      default: return refuse(OTHER);
    }
  }

  public int name(int station, int place) {
    if (!told.has(station)) return refuse(NOBODY);
    if (place < 0 || place >= told.sizes[station]) return refuse(NOBODY);
    return told.names[station][place];
  }

  public int kind(int station, int v) {
    if (!told.has(station)) return refuse(NOBODY);
    if (v < 0 || v > Stations.LAST) return refuse(OTHER);
    int was = told.kinds[station];
    told.kinds[station] = v;
    return was;
  }

  public int form(int v) {
    if (!isChoice(v)) return refuse(OTHER);
    int was = told.isRing ? 1 : 0;
    told.isRing = v == 1;
    return was;
  }

  public int few(int from, int to) {
    if (!told.has(from) || !told.has(to)) return refuse(NOBODY);
    net.lay(told);
    return net.fewest(from, to);
  }

  public long ways(int from, int to, int n) {
    if (!told.has(from) || !told.has(to)) return refuseLong(NOBODY);
    if (n < 0) return refuseLong(BELOW);
    if (n > MOST_WAYS) return refuseLong(ROOM);
    net.lay(told);
    return net.waysBy(from, to, n);
  }

  public int whither(int station) {
    if (!told.has(station)) return refuse(NOBODY);
    net.lay(told);
    return net.reach[station];
  }

  public int whence(int station) {
    if (!told.has(station)) return refuse(NOBODY);
    net.lay(told);
    return net.comers(station);
  }

  public int blind() {
    net.lay(told);
    return net.unvisited();
  }

  public int dead() {
    net.lay(told);
    return net.unleft();
  }

  public int parts(int station) {
    if (station != -1 && !told.has(station)) return refuse(NOBODY);
    net.lay(told);
    return station == -1 ? net.partsInAll() : net.partOf(station);
  }

  public int never() {
    return neverIn(told);
  }

  public int more(int station, int is) {
    if (!told.has(station)) return refuseMore(NOBODY);
    if (!isChoice(is)) return refuseMore(OTHER);
    tried.take(told);
    if (!tried.change(station, is)) return refuseMore(STATE);
    return neverIn(tried) - neverIn(told);
  }

  public int worst(int least) {
    if (!isChoice(least)) return refuse(OTHER);
    int answer = NONE;
    int record = 0;
    for (int one = 0; one < 2 * told.known; one++) {
      tried.take(told);
      if (!tried.change(one / 2, one % 2)) continue;
      int never = neverIn(tried);
      boolean isBetter = least == 1 ? never < record : never > record;
      if (answer != NONE && !isBetter) continue;
      record = never;
      answer = 10 * (one / 2) + one % 2;
    }
    return answer;
  }

  public int changed() {
    if (neverIn(told) == 0) return 0;
    if (someChangeJoinsAll()) return 1;
    return someTwoChangesJoinAll() ? 2 : NONE;
  }

  public long luck(int from, int to, int n, int part) {
    if (!told.has(from) || !told.has(to)) return refuseLong(NOBODY);
    if (n < 0) return refuseLong(BELOW);
    if (n > MOST_LOTS) return refuseLong(ROOM);
    if (!isChoice(part)) return refuseLong(OTHER);
    net.lay(told);
    long above = net.lotsOf(from, to, n);
    long below = 1L << n;
    // Below the line stands a power of two, so halving is all that there is to reduce.
    for (int i = 0; i < n && above % 2 == 0; i++) {
      above /= 2;
      below /= 2;
    }
    return part == 0 ? above : below;
  }

  public int putIn(int station, int letters) {
    if (!told.has(station)) return refuse(NOBODY);
    if (letters < 1) return refuse(BELOW);
    if (letters > MOST_NAMED || told.known >= MOST_STATIONS) return refuse(ROOM);
    tried.take(told);
    tried.insertBehind(station, letters);
    return neverIn(tried);
  }

  public int shut(int station) {
    if (!told.has(station)) return refuse(NOBODY);
    tried.take(told);
    tried.remove(station);
    return neverIn(tried);
  }

  public int alike(int n, int letters) {
    if (n < 1 || letters < 1) return refuse(BELOW);
    if (n > 60 || letters > 99) return refuse(ROOM);
    // So many stops again and again reach just the multiples of the greatest common divisor.
    for (int divisor = n; divisor > 1; divisor--) {
      if (n % divisor == 0 && letters % divisor == 0) return divisor;
    }
    return 1;
  }

  public int row(int v) {
    if (v < 0) return refuse(BELOW);
    if (v > UNSEEN || sights.size >= MOST_SIGHTS) return refuse(ROOM);
    sights.append(v);
    return sights.size;
  }

  public long gotOn(int what) {
    if (!isChoice(what)) return refuseLong(OTHER);
    if (sights.size == 0) return refuseLong(STATE);
    net.lay(told);
    net.fit(sights);
    return what == 0 ? net.fittingStations() : net.fittingWays();
  }

  public int misspelt() {
    if (sights.size == 0) return refuse(STATE);
    if (someWayFits(told)) return 0;
    int bits = 0;
    for (int station = 0; station < told.known; station++) {
      if (canBeMisspelt(station)) bits |= 1 << station;
    }
    return bits;
  }

  public int judge() {
    net.lay(told);
    int answer = net.firstNoRide(sights);
    sights.size = 0;
    return answer;
  }

  public int seeds(int station, int n, int z) {
    if (!told.has(station)) return refuse(NOBODY);
    if (n < 1) return refuse(BELOW);
    if (n > MOST_DRAWS) return refuse(ROOM);
    net.lay(told);
    return net.drawn(station, n, z);
  }

  public int image() {
    kept.take(told);
    isKept = true;
    return told.known;
  }

  public int on() {
    if (!isKept) return refuse(STATE);
    told.take(kept);
    return told.known;
  }

  public int count(int what) {
    switch (what) {
      case 0: return told.known;
      case 1: return told.sumOfSizes();
      case 2: return told.isRing ? 1 : 0;
      case 3: net.lay(told); return net.sumOfRides();
      case 4: return sights.size;
      case 5: return signs.size;
      default: return what >= 11 && what <= 16 ? refusals[what - 10] : NONE;
    }
  }

  private static boolean isChoice(int v) {
    return v == 0 || v == 1;
  }

  private int refuse(int number) {
    int place = -number;
    if (place >= 0 && place < refusals.length) refusals[place]++;
    return number;
  }

  private int refuseMore(int number) {
    return REFUSED_MORE - refuse(number);
  }

  private long refuseLong(int number) {
    return REFUSED_LONG - refuse(number);
  }

  private int neverIn(Stations stations) {
    net.lay(stations);
    return net.pairsApart();
  }

  private boolean someWayFits(Stations stations) {
    net.lay(stations);
    net.fit(sights);
    return net.fittingStations() != 0;
  }

  private boolean someChangeJoinsAll() {
    for (int one = 0; one < 2 * told.known; one++) {
      tried.take(told);
      if (tried.change(one / 2, one % 2) && neverIn(tried) == 0) return true;
    }
    return false;
  }

  private boolean someTwoChangesJoinAll() {
    for (int one = 0; one < 2 * told.known; one++) {
      // The other one begins at the next station: the two are of unlike stations.
      for (int other = one - one % 2 + 2; other < 2 * told.known; other++) {
        tried.take(told);
        boolean areMade = tried.change(one / 2, one % 2) && tried.change(other / 2, other % 2);
        if (areMade && neverIn(tried) == 0) return true;
      }
    }
    return false;
  }

  private boolean canBeMisspelt(int station) {
    for (int size = 1; size <= MOST_NAMED; size++) {
      if (size == told.sizes[station]) continue;
      tried.take(told);
      tried.spell(station, size);
      if (someWayFits(tried)) return true;
    }
    return false;
  }

  private int readSigns() {
    int fault = signs.firstUnreadable();
    if (fault >= 0) return UNREADABLE - fault;
    // Read into a copy: with a fault nothing of the line may have come.
    tried.take(told);
    int statements = 0;
    int first = 0;
    for (int place = 0; place < signs.size; place++) {
      if (signs.at(place) != ';') continue;
      if (!tried.obey(signs, first, place)) return MISPLACED - first;
      statements++;
      first = place + 1;
    }
    told.take(tried);
    return statements;
  }

  /** The letters that have come and are not yet a line. */
  private static final class Signs {
    private static final String KINDS = "sfvjel";
    private static final int START = 0;
    private static final int KIND = 1;
    private static final int NUMBER = 2;
    private static final int EQUALS = 3;
    private static final int END = 4;
    // NAME and so many: so many letters of a name have come.
    private static final int NAME = 10;
    private static final int FAULT = -1;

    private final int[] row = new int[MOST_SIGNS];
    private int size;

    private void append(int c) {
      if (size >= row.length) return;
      row[size] = c;
      size++;
    }

    private int at(int place) {
      return place >= 0 && place < size ? row[place] : -1;
    }

    /** The place of the first letter with which no line can go on, the end if something lacks, else -1. */
    private int firstUnreadable() {
      int state = START;
      for (int place = 0; place < size; place++) {
        state = next(state, row[place]);
        if (state == FAULT) return place;
      }
      return state == START && size > 0 ? -1 : size;
    }

    private static int next(int state, int c) {
      switch (state) {
        case START: return begun(c);
        case KIND: return kindOf(c) >= 0 ? EQUALS : FAULT;
        case NUMBER: return c >= '0' && c <= '9' ? EQUALS : FAULT;
        case EQUALS: return c == '=' ? NAME : FAULT;
        case END: return c == ';' ? START : FAULT;
        default: return named(state, c);
      }
    }

    private static int begun(int c) {
      if (c == 's') return KIND;
      if (c == 'n') return NUMBER;
      return c == 'r' || c == 'o' ? END : FAULT;
    }

    private static int named(int state, int c) {
      if (c == ';') return state > NAME ? START : FAULT;
      boolean fits = c >= 'a' && c <= 'z' && state < NAME + MOST_NAMED;
      return fits ? state + 1 : FAULT;
    }

    private static int kindOf(int c) {
      return c >= 0 && c <= 255 ? KINDS.indexOf((char) c) : -1;
    }
  }

  /** The stations as they are told, or as they would be. */
  private static final class Stations {
    private static final int STATION = 0;
    private static final int FORWARD = 1;
    private static final int VOWELS = 2;
    private static final int JOINED = 3;
    private static final int EVEN = 4;
    private static final int LAST = 5;
    // One more than a told name has: a letter more may be a tenth.
    private static final int NAME_ROOM = MOST_NAMED + 1;
    // Bits by place in the alphabet: a, e, i, o, u.
    private static final int VOWEL_BITS = 1 | 1 << 4 | 1 << 8 | 1 << 14 | 1 << 20;

    private final int[] kinds = new int[MOST_STATIONS];
    private final int[] sizes = new int[MOST_STATIONS];
    private final int[][] names = new int[MOST_STATIONS][NAME_ROOM];
    private int known;
    private boolean isRing;

    private boolean has(int station) {
      return station >= 0 && station < known;
    }

    private void take(Stations other) {
      known = other.known;
      isRing = other.isRing;
      for (int i = 0; i < known; i++) takeOne(other, i, i);
    }

    private void takeOne(Stations other, int from, int to) {
      kinds[to] = other.kinds[from];
      sizes[to] = other.sizes[from];
      System.arraycopy(other.names[from], 0, names[to], 0, NAME_ROOM);
    }

    /** Does the statement from a place to its end; false where it is not as it must be. */
    private boolean obey(Signs signs, int from, int end) {
      int first = signs.at(from);
      if (first == 's') return append(signs, from, end);
      if (first == 'n') return rename(signs.at(from + 1) - '0', signs, from + 3, end);
      isRing = first == 'r';
      return true;
    }

    private boolean append(Signs signs, int from, int end) {
      int kind = Signs.kindOf(signs.at(from + 1));
      if (known >= MOST_STATIONS || kind < 0) return false;
      kinds[known] = kind;
      known++;
      return rename(known - 1, signs, from + 3, end);
    }

    private boolean rename(int station, Signs signs, int from, int end) {
      int size = end - from;
      if (!has(station) || size < 1 || size > MOST_NAMED) return false;
      for (int i = 0; i < size; i++) names[station][i] = signs.at(from + i) - 'a';
      sizes[station] = size;
      return true;
    }

    private void spell(int station, int size) {
      if (!has(station) || size < 1 || size > MOST_NAMED) return;
      for (int i = 0; i < size; i++) names[station][i] = 0;
      sizes[station] = size;
    }

    /** An "a" more (is 1) or a letter less at the end of a name; false where that can't be. */
    private boolean change(int station, int is) {
      if (!has(station)) return false;
      int size = sizes[station];
      if (is == 0) {
        if (size <= 1) return false;
        sizes[station] = size - 1;
        return true;
      }
      if (size >= NAME_ROOM) return false;
      names[station][size] = 0;
      sizes[station] = size + 1;
      return true;
    }

    private void insertBehind(int station, int size) {
      if (!has(station) || known >= MOST_STATIONS) return;
      for (int i = known; i > station + 1; i--) takeOne(this, i - 1, i);
      known++;
      kinds[station + 1] = STATION;
      spell(station + 1, size);
    }

    private void remove(int station) {
      if (!has(station)) return;
      for (int i = station; i < known - 1; i++) takeOne(this, i + 1, i);
      known--;
    }

    private int sumOfSizes() {
      int sum = 0;
      for (int i = 0; i < known; i++) sum += sizes[i];
      return sum;
    }

    private int stopsFrom(int station) {
      switch (kinds[station]) {
        case VOWELS:
        case EVEN: return vowelsOf(station);
        case JOINED: return sizes[station] + sizes[station + 1 < known ? station + 1 : 0];
        case LAST: return lastLetterOf(station) + 1;
        default: return sizes[station];
      }
    }

    private int vowelsOf(int station) {
      int vowels = 0;
      for (int i = 0; i < sizes[station]; i++) {
        vowels += VOWEL_BITS >> names[station][i] & 1;
      }
      return vowels;
    }

    private int lastLetterOf(int station) {
      int size = sizes[station];
      return size > 0 ? names[station][size - 1] : 0;
    }

    private int ridesFrom(int station) {
      int kind = kinds[station];
      int stops = stopsFrom(station);
      if (kind == EVEN && stops % 2 != 0) return 0;
      int rides = bitOf(station + stops);
      if (kind != FORWARD && kind != LAST) rides |= bitOf(station - stops);
      return rides;
    }

    private int bitOf(int number) {
      if (known < 1) return 0;
      if (isRing) return 1 << Math.floorMod(number, known);
      return has(number) ? 1 << number : 0;
    }
  }

  /** Where one was seen, ride by ride. */
  private static final class Sights {
    private final int[] seen = new int[MOST_SIGHTS];
    private int size;

    private void append(int v) {
      if (size >= seen.length) return;
      seen[size] = v;
      size++;
    }

    private int at(int place) {
      return place >= 0 && place < size ? seen[place] : UNSEEN;
    }

    private boolean allows(int place, int station) {
      int was = at(place);
      return was == UNSEEN || was == station;
    }
  }

  /** The rides between stations as they were when it was laid. */
  private static final class Net {
    private final int[] rides = new int[MOST_STATIONS];
    private final int[] reach = new int[MOST_STATIONS];
    private final long[] tally = new long[MOST_STATIONS];
    private final long[] next = new long[MOST_STATIONS];
    private int size;

    private void lay(Stations stations) {
      size = stations.known;
      for (int i = 0; i < size; i++) {
        rides[i] = stations.ridesFrom(i);
        reach[i] = rides[i] | (1 << i);
      }
      for (int over = 0; over < size; over++) {
        for (int i = 0; i < size; i++) {
          if (comes(i, over)) reach[i] |= reach[over];
        }
      }
    }

    private boolean leads(int from, int to) {
      return from >= 0 && from < size && (rides[from] >> to & 1) != 0;
    }

    private boolean comes(int from, int to) {
      return from >= 0 && from < size && (reach[from] >> to & 1) != 0;
    }

    private int comers(int station) {
      int bits = 0;
      for (int i = 0; i < size; i++) {
        if (comes(i, station)) bits |= 1 << i;
      }
      return bits;
    }

    private int fewest(int from, int to) {
      int reached = 1 << from;
      for (int n = 0; n < MOST_STATIONS; n++) {
        if ((reached >> to & 1) != 0) return n;
        reached |= oneRideFrom(reached);
      }
      return NONE;
    }

    private int oneRideFrom(int stations) {
      int bits = 0;
      for (int i = 0; i < size; i++) {
        if ((stations >> i & 1) != 0) bits |= rides[i];
      }
      return bits;
    }

    private int unvisited() {
      int visited = 0;
      for (int i = 0; i < size; i++) visited |= rides[i] & ~(1 << i);
      return ((1 << size) - 1) & ~visited;
    }

    private int unleft() {
      int bits = 0;
      for (int i = 0; i < size; i++) {
        if ((rides[i] & ~(1 << i)) == 0) bits |= 1 << i;
      }
      return bits;
    }

    private int partOf(int station) {
      return reach[station] & comers(station);
    }

    private int partsInAll() {
      int parts = 0;
      for (int i = 0; i < size; i++) {
        // Each part is counted at its least station alone.
        if ((partOf(i) & ((1 << i) - 1)) == 0) parts++;
      }
      return parts;
    }

    private int pairsApart() {
      int pairs = 0;
      for (int i = 0; i < size; i++) pairs += size - Integer.bitCount(reach[i]);
      return pairs;
    }

    private int sumOfRides() {
      int sum = 0;
      for (int i = 0; i < size; i++) sum += Integer.bitCount(rides[i]);
      return sum;
    }

    private void startAt(int station) {
      for (int i = 0; i < size; i++) tally[i] = i == station ? 1 : 0;
    }

    private long waysBy(int from, int to, int n) {
      startAt(from);
      for (int ride = 0; ride < n; ride++) {
        for (int i = 0; i < size; i++) next[i] = tallyInto(i);
        turn();
      }
      return tally[to];
    }

    private long tallyInto(int station) {
      long sum = 0;
      for (int i = 0; i < size; i++) {
        if (leads(i, station)) sum += tally[i];
      }
      return sum;
    }

    private void turn() {
      for (int i = 0; i < size; i++) tally[i] = next[i];
    }

    /** How likely one is at last on a station, in parts of 2 to the n: nowhere are there more than two rides. */
    private long lotsOf(int from, int to, int n) {
      startAt(from);
      for (int ride = 0; ride < n; ride++) {
        for (int i = 0; i < size; i++) next[i] = 0;
        for (int i = 0; i < size; i++) shareOut(i);
        turn();
      }
      return tally[to];
    }

    private void shareOut(int station) {
      int choices = Integer.bitCount(rides[station]);
      if (choices < 1) {
        next[station] += 2 * tally[station];
        return;
      }
      long share = 2 * tally[station] / choices;
      for (int i = 0; i < size; i++) {
        if (leads(station, i)) next[i] += share;
      }
    }

    /** Tallies, for each station, the ways from there that fit all the sights: from the last one back. */
    private void fit(Sights sights) {
      for (int i = 0; i < size; i++) tally[i] = sights.allows(sights.size - 1, i) ? 1 : 0;
      for (int place = sights.size - 2; place >= 0; place--) {
        for (int i = 0; i < size; i++) next[i] = sights.allows(place, i) ? tallyFrom(i) : 0;
        turn();
      }
    }

    private long tallyFrom(int station) {
      long sum = 0;
      for (int i = 0; i < size; i++) {
        if (leads(station, i)) sum += tally[i];
      }
      return sum;
    }

    private int fittingStations() {
      int bits = 0;
      for (int i = 0; i < size; i++) {
        if (tally[i] > 0) bits |= 1 << i;
      }
      return bits;
    }

    private long fittingWays() {
      long sum = 0;
      for (int i = 0; i < size; i++) sum += tally[i];
      return sum;
    }

    private int firstNoRide(Sights sights) {
      for (int place = 0; place < sights.size; place++) {
        int to = sights.at(place);
        if (to >= size) return place;
        if (place > 0 && !leads(sights.at(place - 1), to)) return place;
      }
      return NONE;
    }

    private int drawn(int station, int n, int z) {
      int at = station;
      int seed = z;
      for (int ride = 0; ride < n; ride++) {
        int choices = Integer.bitCount(rides[at]);
        if (choices < 1) return at;
        seed = seed * 1664525 + 1013904223;
        at = rideOf(at, (seed & 0x7fffffff) / 256 % choices);
      }
      return at;
    }

    private int rideOf(int station, int number) {
      int before = 0;
      for (int i = 0; i < size; i++) {
        if (!leads(station, i)) continue;
        if (before == number) return i;
        before++;
      }
      return station;
    }
  }
}
