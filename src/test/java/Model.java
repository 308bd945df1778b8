import java.math.BigInteger;
import java.util.ArrayList;
import java.util.List;

/**
 * The document once more, in the slowest form: every night is walked, one by one, and weighed.
 * Nothing is shared with the class; where both answer alike, both are likely right.
 */
final class Model {
  static final int BAD = -1, STATE = -2, FULL = -3, NONE = -4;

  static final class Arm {
    String kind;
    int joint;
    int worth;
  }

  static final class Plan implements Cloneable {
    int joints = 6;
    List<int[]> arms = new ArrayList<>(); // kind, joint, worth
    List<int[]> marks = new ArrayList<>(); // joint, clear
    List<int[]> towns = new ArrayList<>(); // letters, worth
    boolean[] signals = new boolean[11];
    int bridge = 0;
    int slip = 1;
    int pace = 5;
    int out = 2;
    int in = 4;
    int signalCost = 1;
    int tornCost = 5;
    int hands = 3;

    Plan copy() {
      Plan p = new Plan();
      p.joints = joints;
      for (int[] a : arms) p.arms.add(a.clone());
      for (int[] m : marks) p.marks.add(m.clone());
      for (int[] t : towns) p.towns.add(t.clone());
      p.signals = signals.clone();
      p.bridge = bridge;
      p.slip = slip;
      p.pace = pace;
      p.out = out;
      p.in = in;
      p.signalCost = signalCost;
      p.tornCost = tornCost;
      p.hands = hands;
      return p;
    }
  }

  /** What one night came to. */
  static final class Walked {
    int out = NONE;
    int in = NONE;
    int met = 0;
    int hit = 0;
    int torn = 0;
    int[] counts = new int[11];
    boolean[] hung = new boolean[11];
    int end = 0;
  }

  Plan now = new Plan();
  Plan[] images = new Plan[2];
  StringBuilder tape = new StringBuilder();
  int fault = 0;
  List<int[]> seen = new ArrayList<>();
  Object[] sheets = new Object[4];
  int readFault = 0;

  // ---- the text

  int feed(int c) {
    if (c < 0 || c > 127) return BAD;
    if (tape.length() == 160) return FULL;
    tape.append((char) c);
    return tape.length();
  }

  int end(int n) {
    int had = tape.length();
    if (n < 0 || n > had) return BAD;
    tape.setLength(n);
    return had;
  }

  /** A fault of the text, thrown up to text(). */
  static final class Refused extends RuntimeException {
    final int why;
    final int where;

    Refused(int why, int where) {
      this.why = why;
      this.where = where;
    }
  }

  String source;
  int at;
  int began;

  /** The next token as text; "" at the end. */
  String token() {
    java.util.regex.Matcher blanks = java.util.regex.Pattern.compile(" *").matcher(source);
    blanks.region(at, source.length());
    blanks.lookingAt();
    began = blanks.end();
    at = began;
    if (began == source.length()) return "";
    java.util.regex.Matcher one = java.util.regex.Pattern.compile("[a-z]+|[0-9]+|;").matcher(source);
    one.region(began, source.length());
    if (!one.lookingAt()) throw new Refused(1, began);
    String found = one.group();
    if (found.matches("[0-9]{3,}")) throw new Refused(1, began);
    at = one.end();
    return found;
  }

  int number(int least, int most) {
    String t = token();
    if (!t.matches("[0-9]+")) throw new Refused(2, began);
    int v = Integer.parseInt(t);
    if (v < least || v > most) throw new Refused(3, began);
    return v;
  }

  void sign() {
    if (!token().equals(";")) throw new Refused(2, began);
  }

  static final List<String> ONCE = List.of("joints", "bridge", "slip", "pace", "net", "cost", "hands");
  static final List<String> KINDS = List.of("true", "light", "heavy", "double", "low");

  int text() {
    source = tape.toString();
    tape.setLength(0);
    at = 0;
    Plan plan = new Plan();
    List<String> had = new ArrayList<>();
    try {
      while (true) {
        String name = token();
        if (name.isEmpty()) break;
        line(plan, had, name);
        sign();
      }
      for (int[] a : plan.arms) if (a[1] > plan.joints) throw new Refused(6, source.length());
      for (int[] m : plan.marks) if (m[0] > plan.joints) throw new Refused(6, source.length());
      for (int j = 1; j <= 10; j++) if (plan.signals[j] && j > plan.joints) throw new Refused(6, source.length());
      if (plan.bridge > plan.joints) throw new Refused(6, source.length());
    } catch (Refused r) {
      fault = r.why;
      return -10 - r.where;
    }
    fault = 0;
    now = plan;
    seen.clear();
    images[0] = null;
    images[1] = null;
    return had.size();
  }

  void line(Plan plan, List<String> had, String name) {
    if (ONCE.contains(name) && had.contains(name)) throw new Refused(4, began);
    had.add(name);
    switch (name) {
      case "joints": plan.joints = number(2, 10); break;
      case "bridge": plan.bridge = number(1, 10); break;
      case "slip": plan.slip = number(0, 10); break;
      case "pace": plan.pace = number(1, 9); break;
      case "hands": plan.hands = number(1, 9); break;
      case "net":
        plan.out = number(1, 10);
        plan.in = number(plan.out + 1, 11);
        break;
      case "cost":
        plan.signalCost = number(0, 9);
        plan.tornCost = number(0, 9);
        break;
      case "signal": {
        int j = number(1, 10);
        if (plan.signals[j]) throw new Refused(4, began);
        plan.signals[j] = true;
        break;
      }
      case "arm": {
        if (plan.arms.size() == 3) throw new Refused(5, began);
        int kind = KINDS.indexOf(token());
        if (kind < 0) throw new Refused(2, began);
        int j = number(1, 10);
        for (int[] a : plan.arms) if (a[1] == j) throw new Refused(4, began);
        plan.arms.add(new int[] {kind, j, number(0, 9)});
        break;
      }
      case "mark": {
        if (plan.marks.size() == 3) throw new Refused(5, began);
        int j = number(1, 10);
        for (int[] m : plan.marks) if (m[0] == j) throw new Refused(4, began);
        plan.marks.add(new int[] {j, number(0, 10)});
        break;
      }
      case "town": {
        if (plan.towns.size() == 5) throw new Refused(5, began);
        int letters = number(0, 99);
        plan.towns.add(new int[] {letters, number(0, 9)});
        break;
      }
      default: throw new Refused(2, began);
    }
  }

  int fault() {
    return fault;
  }

  int rule(int what) {
    switch (what) {
      case 0: return now.joints;
      case 1: return now.arms.size();
      case 2: return now.marks.size();
      case 3: return now.towns.size();
      case 4: {
        int bits = 0;
        for (int j = 1; j <= 10; j++) if (now.signals[j]) bits += 1 << (j - 1);
        return bits;
      }
      case 5: return now.bridge;
      case 6: return now.slip;
      case 7: return now.pace;
      case 8: return now.out;
      case 9: return now.in;
      case 10: return now.signalCost;
      case 11: return now.tornCost;
      case 12: return now.hands;
      default: return BAD;
    }
  }

  static int holds(int kind, int pace) {
    switch (kind) {
      case 0: return Math.max(0, 10 - pace / 2);
      case 1: return Math.max(0, holds(0, pace) - (pace >= 5 ? 3 : 0));
      case 2: return Math.max(0, holds(0, pace) - pace / 3);
      case 3: return Math.max(0, holds(2, pace) - 1);
      default: return Math.max(0, holds(1, pace) - 1);
    }
  }

  int arm(int i, int what) {
    if (i < 0 || i >= now.arms.size() || what < 0 || what > 3) return BAD;
    int[] a = now.arms.get(i);
    return what == 3 ? holds(a[0], now.pace) : a[what];
  }

  int mark(int m, int what) {
    if (m < 0 || m >= now.marks.size() || what < 0 || what > 1) return BAD;
    return now.marks.get(m)[what];
  }

  int town(int t, int what) {
    if (t < 0 || t >= now.towns.size() || what < 0 || what > 1) return BAD;
    return now.towns.get(t)[what];
  }

  // ---- what is changed

  int set(int what, int v) {
    int was;
    if (what == 0 && v >= 0 && v <= 10) {
      was = now.slip;
      now.slip = v;
    } else if (what == 1 && v >= 1 && v <= 9) {
      was = now.hands;
      now.hands = v;
    } else if (what == 2 && v >= 1 && v <= 9) {
      was = now.pace;
      now.pace = v;
    } else {
      return BAD;
    }
    return was;
  }

  int net(int out, int in) {
    if (out < 1 || out > 10 || in < 2 || in > 11 || out >= in) return BAD;
    int was = now.out;
    now.out = out;
    now.in = in;
    return was;
  }

  int signal(int j, boolean is) {
    if (j < 1 || j > now.joints) return BAD;
    boolean was = now.signals[j];
    now.signals[j] = is;
    return was ? 1 : 0;
  }

  int bridge(int j) {
    if (j < 0 || j > now.joints) return BAD;
    int was = now.bridge;
    now.bridge = j;
    return was;
  }

  int clear(int m, int v) {
    if (m < 0 || m >= now.marks.size() || v < 0 || v > 10) return BAD;
    int was = now.marks.get(m)[1];
    now.marks.get(m)[1] = v;
    return was;
  }

  int hang(int i, int kind) {
    if (i < 0 || i >= now.arms.size() || kind < 0 || kind > 4) return BAD;
    int was = now.arms.get(i)[0];
    now.arms.get(i)[0] = kind;
    return was;
  }

  int post(int t, int n) {
    if (t < 0 || t >= now.towns.size() || n < 0 || n > 99) return BAD;
    int[] town = now.towns.get(t);
    if (town[0] + n > 99) return FULL;
    town[0] += n;
    return town[0];
  }

  // ---- a night

  static boolean bit(int bits, int i) {
    return (bits >> i) % 2 == 1;
  }

  static Walked walk(Plan p, int misses, int notices) {
    Walked w = new Walked();
    int count = 0;
    String net = "fresh";
    for (int j = 1; j <= p.joints; j++) {
      if (!bit(misses, j - 1)) count += 1;
      for (int m = 0; m < p.marks.size(); m++) {
        if (p.marks.get(m)[0] == j && bit(notices, m)) count = j;
      }
      if (net.equals("fresh")) {
        if (count >= p.out) {
          net = "out";
          w.out = j;
        }
      } else if (net.equals("out")) {
        if (count >= p.in) {
          net = "in";
          w.in = j;
        }
      }
      w.counts[j] = count;
      w.hung[j] = net.equals("out");
      if (net.equals("out")) {
        for (int i = 0; i < p.arms.size(); i++) if (p.arms.get(i)[1] == j) w.met += 1 << i;
        if (p.signals[j]) w.hit += 1 << (j - 1);
        if (p.bridge == j) {
          w.torn = 1;
          net = "gone";
        }
      }
    }
    w.end = count;
    return w;
  }

  static int part(Walked w, int what) {
    return new int[] {w.out, w.in, w.met, w.hit, w.torn, w.end}[what];
  }

  boolean areBits(int misses, int notices) {
    return misses >= 0 && misses < 1 << now.joints && notices >= 0 && notices < 1 << now.marks.size();
  }

  int night(int misses, int notices, int what) {
    if (!areBits(misses, notices) || what < 0 || what > 5) return BAD;
    return part(walk(now, misses, notices), what);
  }

  int counts(int misses, int notices, int j) {
    if (!areBits(misses, notices) || j < 0 || j > now.joints) return BAD;
    return walk(now, misses, notices).counts[j];
  }

  // ---- by odds

  interface Measure {
    long of(Walked w);
  }

  static long weight(Plan p, int misses, int notices) {
    long weight = 1;
    for (int j = 1; j <= p.joints; j++) weight *= bit(misses, j - 1) ? p.slip : 10 - p.slip;
    for (int m = 0; m < p.marks.size(); m++) {
      int clear = p.marks.get(m)[1];
      weight *= bit(notices, m) ? clear : 10 - clear;
    }
    return weight;
  }

  static BigInteger whole(Plan p) {
    return BigInteger.TEN.pow(p.joints + p.marks.size());
  }

  static BigInteger sum(Plan p, Measure measure) {
    BigInteger sum = BigInteger.ZERO;
    for (int misses = 0; misses < 1 << p.joints; misses++) {
      for (int notices = 0; notices < 1 << p.marks.size(); notices++) {
        long weight = weight(p, misses, notices);
        if (weight == 0) continue;
        long v = measure.of(walk(p, misses, notices));
        sum = sum.add(BigInteger.valueOf(weight).multiply(BigInteger.valueOf(v)));
      }
    }
    return sum;
  }

  static long lowest(BigInteger n, BigInteger d, int what) {
    BigInteger g = n.gcd(d);
    return (what == 0 ? n.divide(g) : d.divide(g)).longValueExact();
  }

  static boolean isPart(int what) {
    return what == 0 || what == 1;
  }

  long where(int j, int c, int what) {
    if (j < 0 || j > now.joints || c < 0 || c > 10 || !isPart(what)) return BAD;
    return lowest(sum(now, w -> w.counts[j] == c ? 1 : 0), whole(now), what);
  }

  long goes(int j, int what) {
    if (j < 1 || j > now.joints || !isPart(what)) return BAD;
    return lowest(sum(now, w -> w.out == j ? 1 : 0), whole(now), what);
  }

  long isOut(int j, int what) {
    if (j < 1 || j > now.joints || !isPart(what)) return BAD;
    return lowest(sum(now, w -> w.hung[j] ? 1 : 0), whole(now), what);
  }

  static BigInteger hadTenths(Plan p, int i) {
    return sum(p, w -> bit(w.met, i) ? holds(p.arms.get(i)[0], p.pace) : 0);
  }

  long had(int i, int what) {
    if (i < 0 || i >= now.arms.size() || !isPart(what)) return BAD;
    return lowest(hadTenths(now, i), whole(now).multiply(BigInteger.TEN), what);
  }

  long hits(int what) {
    if (!isPart(what)) return BAD;
    return lowest(sum(now, w -> Integer.bitCount(w.hit)), whole(now), what);
  }

  long torn(int what) {
    if (!isPart(what)) return BAD;
    return lowest(sum(now, w -> w.torn), whole(now), what);
  }

  static BigInteger worthTenths(Plan p) {
    return sum(p, w -> {
      long v = 0;
      for (int i = 0; i < p.arms.size(); i++) {
        if (bit(w.met, i)) v += holds(p.arms.get(i)[0], p.pace) * p.arms.get(i)[2];
      }
      return v - 10 * (p.signalCost * Integer.bitCount(w.hit) + p.tornCost * w.torn);
    });
  }

  long worth(int what) {
    if (!isPart(what)) return BAD;
    return lowest(worthTenths(now), whole(now).multiply(BigInteger.TEN), what);
  }

  // ---- what to do

  long best(int what) {
    if (what < 0 || what > 2) return BAD;
    Plan p = now.copy();
    BigInteger most = null;
    int net = 0;
    for (int number = 0; number <= 1100; number++) {
      p.out = number / 100;
      p.in = number % 100;
      if (p.out < 1 || p.out > 10 || p.in > 11 || p.in <= p.out) continue;
      BigInteger v = worthTenths(p);
      if (most == null || v.compareTo(most) > 0) {
        most = v;
        net = number;
      }
    }
    return what == 0 ? net : lowest(most, whole(p).multiply(BigInteger.TEN), what - 1);
  }

  static boolean isHad(Plan p, int i, int k) {
    return hadTenths(p, i).compareTo(whole(p).multiply(BigInteger.valueOf(k))) >= 0;
  }

  boolean isAsked(int i, int k) {
    return i >= 0 && i < now.arms.size() && k >= 1 && k <= 10;
  }

  int fog(int i, int k) {
    if (!isAsked(i, k)) return BAD;
    Plan p = now.copy();
    for (int clear = 0; clear <= 10; clear++) {
      for (int[] m : p.marks) m[1] = clear;
      if (isHad(p, i, k)) return clear;
    }
    return NONE;
  }

  int fast(int i, int k) {
    if (!isAsked(i, k)) return BAD;
    Plan p = now.copy();
    int most = NONE;
    for (p.pace = 1; p.pace <= 9; p.pace++) if (isHad(p, i, k)) most = p.pace;
    return most;
  }

  int slack(int i, int k) {
    if (!isAsked(i, k)) return BAD;
    Plan p = now.copy();
    int most = NONE;
    for (p.slip = 0; p.slip <= 10; p.slip++) if (isHad(p, i, k)) most = p.slip;
    return most;
  }

  // ---- letters

  int time(int set, int hands) {
    int sum = 0;
    for (int t = 0; t < now.towns.size(); t++) {
      for (int left = bit(set, t) ? now.towns.get(t)[0] : 0; left > 0; left -= hands) sum++;
    }
    return sum;
  }

  int sort(int t, int what) {
    if (t < 0 || t > 99 || !isPart(what)) return BAD;
    int most = -1;
    int of = 0;
    for (int set = 0; set < 1 << now.towns.size(); set++) {
      if (time(set, now.hands) > t) continue;
      int sum = 0;
      for (int i = 0; i < now.towns.size(); i++) if (bit(set, i)) sum += now.towns.get(i)[0] * now.towns.get(i)[1];
      if (sum > most) {
        most = sum;
        of = set;
      }
    }
    return what == 0 ? most : of;
  }

  int minutes(int set) {
    if (set < 0 || set >= 1 << now.towns.size()) return BAD;
    return time(set, now.hands);
  }

  int hands(int t) {
    if (t < 0 || t > 99) return BAD;
    for (int h = 1; h <= 9; h++) if (time((1 << now.towns.size()) - 1, h) <= t) return h;
    return NONE;
  }

  // ---- what he missed

  int see(int j, int c) {
    if (j < 1 || j > now.joints || c < 0 || c > 10) return BAD;
    if (seen.size() == 6) return FULL;
    seen.add(new int[] {j, c});
    return seen.size();
  }

  int forget(int n) {
    int had = seen.size();
    if (n < 0 || n > had) return BAD;
    while (seen.size() > n) seen.remove(seen.size() - 1);
    return had;
  }

  boolean isAsSeen(Walked w) {
    for (int[] s : seen) if (w.counts[s[0]] != s[1]) return false;
    return true;
  }

  int fits(int what) {
    if (what < 0 || what > 4) return BAD;
    int ways = 0;
    int allMissed = -1;
    int anyMissed = 0;
    int allNoticed = -1;
    int anyNoticed = 0;
    for (int misses = 0; misses < 1 << now.joints; misses++) {
      for (int notices = 0; notices < 1 << now.marks.size(); notices++) {
        if (!isAsSeen(walk(now, misses, notices))) continue;
        ways++;
        allMissed &= misses;
        anyMissed |= misses;
        allNoticed &= notices;
        anyNoticed |= notices;
      }
    }
    if (what == 0) return ways;
    if (ways == 0) return NONE;
    int joints = (1 << now.joints) - 1;
    int marks = (1 << now.marks.size()) - 1;
    return new int[] {0, allMissed, joints & ~anyMissed, allNoticed, marks & ~anyNoticed}[what];
  }

  long likely(int what) {
    if (!isPart(what)) return BAD;
    return lowest(sum(now, w -> isAsSeen(w) ? 1 : 0), whole(now), what);
  }

  // ---- by a seed

  int drift(int seed, int what) {
    if (what < 0 || what > 5) return BAD;
    BigInteger drawn = BigInteger.valueOf(seed);
    int misses = 0;
    int notices = 0;
    for (int i = 0; i < now.joints + now.marks.size(); i++) {
      drawn = drawn.multiply(BigInteger.valueOf(1103515245L)).add(BigInteger.valueOf(12345)).mod(BigInteger.TWO.pow(32));
      int figure = (int) (drawn.longValue() / 65536 % 32768 % 10);
      if (i < now.joints) {
        if (figure < now.slip) misses |= 1 << i;
      } else if (figure < now.marks.get(i - now.joints)[1]) {
        notices |= 1 << (i - now.joints);
      }
    }
    return part(walk(now, misses, notices), what);
  }

  // ---- images, sheets

  int keep(int k) {
    if (k != 0 && k != 1) return BAD;
    int was = images[k] != null ? 1 : 0;
    images[k] = now.copy();
    return was;
  }

  int back(int k) {
    if (k != 0 && k != 1) return BAD;
    if (images[k] == null) return STATE;
    now = images[k].copy();
    return now.joints;
  }

  int sheet(int k, int lane, int n) {
    if (k < 0 || k > 3 || lane < 0 || lane > 2 || n > 40) return BAD;
    try {
      sheets[k] = lane == 0 ? new byte[n] : lane == 1 ? (Object) new short[n] : new int[n];
      return 1;
    } catch (NegativeArraySizeException e) {
      return -14;
    }
  }

  int lay(int k, int i, int v) {
    if (k < 0 || k > 3) return BAD;
    try {
      Object s = sheets[k];
      if (s instanceof byte[]) ((byte[]) s)[i] = (byte) v;
      else if (s instanceof short[]) ((short[]) s)[i] = (short) v;
      else ((int[]) s)[i] = v;
      return 1;
    } catch (NullPointerException e) {
      return -11;
    } catch (ArrayIndexOutOfBoundsException e) {
      return -12;
    }
  }

  static int cell(Object sheet, int lane, int i) {
    return lane == 0 ? ((byte[]) sheet)[i] : lane == 1 ? ((short[]) sheet)[i] : ((int[]) sheet)[i];
  }

  /** Here the machine itself finds the faults. */
  int read(int k, int lane, int f, int n) {
    if (k < 0 || k > 3 || lane < 0 || lane > 2 || n < 0 || n > 20) return BAD;
    Plan before = now.copy();
    int came = 0;
    int found = 0;
    try {
      for (; came < n; came++) {
        int t = cell(sheets[k], lane, f + 2 * came);
        int letters = cell(sheets[k], lane, f + 2 * came + 1);
        if (post(t, letters) < 0) {
          now = before;
          return -20 - came;
        }
      }
    } catch (NullPointerException e) {
      found = 1;
    } catch (ArrayIndexOutOfBoundsException e) {
      found = 2;
    } catch (ClassCastException e) {
      found = 3;
    }
    readFault = found;
    return came;
  }

  int split() {
    return readFault;
  }

  int count(int what) {
    switch (what) {
      case 0: return seen.size();
      case 1: return (images[0] != null ? 1 : 0) + (images[1] != null ? 1 : 0);
      case 2: return tape.length();
      case 3: return sheets[0] == null ? NONE : java.lang.reflect.Array.getLength(sheets[0]);
      case 4: {
        int sum = 0;
        for (int[] t : now.towns) sum += t[0];
        return sum;
      }
      case 5: return Integer.bitCount(rule(4));
      default: return BAD;
    }
  }
}
