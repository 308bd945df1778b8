import java.util.Random;

/** Runs of calls drawn by fixed seeds, each answer against the Model's. */
public final class ModelTests {
  private static final int RUNS = 6000;
  private static final int CALLS = 512;
  /** What a look at all takes, and what one step may take at most (a text, its bytes and what it answers). */
  private static final int LOOK = 160;
  private static final int STEP = 172;
  private static final int SMALL_STEP = 50;

  private final Random random;
  private final MailCatch x = new MailCatch();
  private final Model m = new Model();
  private final StringBuilder told = new StringBuilder();
  private final int run;
  private int calls = 0;

  private ModelTests(int run) {
    this.run = run;
    random = new Random(1000003L * run + 17);
  }

  public static void main(String[] args) {
    for (int run = 0; run < RUNS && Check.wrongOnes() == 0; run++) {
      new ModelTests(run).go();
    }
    Check.finish();
  }

  /** Up to the 512th call: what later calls answer is free. */
  private void go() {
    while (calls + SMALL_STEP + LOOK <= CALLS && Check.wrongOnes() == 0) {
      boolean isTime = calls + STEP + LOOK <= CALLS;
      if (isTime && (calls == 0 || pick(30) == 0)) {
        tellText();
      } else {
        callOne();
      }
      if (calls + 2 * LOOK <= CALLS && pick(20) == 0) {
        lookAll();
      }
    }
    lookAll();
    Check.holds("run " + run + " is of at most 512 calls", calls <= CALLS);
    if (Check.wrongOnes() != 0) {
      System.out.println(told);
    }
  }

  private int pick(int n) {
    return random.nextInt(n);
  }

  /** A number of a .. b, now and then one beside them or far off. */
  private int near(int a, int b) {
    int way = pick(24);
    if (way == 0) {
      return a - 1;
    }
    if (way == 1) {
      return b + 1;
    }
    if (way == 2) {
      return new int[] {Integer.MIN_VALUE, Integer.MAX_VALUE, -1, 1 << 16, -a, random.nextInt()}[pick(6)];
    }
    return a + pick(b - a + 1);
  }

  private void due(String call, long got, long want) {
    calls++;
    told.append(call).append(" = ").append(got).append('\n');
    Check.due("run " + run + ": " + call, got, want);
  }

  private void feedText(String text) {
    for (int i = 0; i < text.length(); i++) {
      due("feed " + text.charAt(i), x.feed(text.charAt(i)), m.feed(text.charAt(i)));
    }
  }

  // ---- texts

  private void tellText() {
    StringBuilder text = new StringBuilder();
    int most = pick(5) == 0 ? 10 : 2 + pick(6);
    if (pick(4) != 0) {
      text.append("joints ").append(most).append(';');
    } else {
      most = 6;
    }
    int lines = pick(14);
    for (int i = 0; i < lines; i++) {
      text.append(line(most));
    }
    if (pick(3) == 0 && text.length() > 0) {
      spoil(text);
    }
    if (text.length() > 160 && pick(2) == 0) {
      text.setLength(Math.max(1, text.lastIndexOf(";", 159) + 1));
    }
    text.setLength(Math.min(text.length(), 170));
    feedText(text.toString());
    due("text", x.text(), m.text());
    due("fault", x.fault(), m.fault());
  }

  private String line(int joints) {
    int j = 1 + pick(pick(30) == 0 ? 11 : joints);
    String kind = new String[] {"true", "light", "heavy", "double", "low"}[pick(5)];
    int out = 1 + pick(joints);
    switch (pick(pick(3) == 0 ? 10 : 5)) {
      case 0: return "arm " + kind + " " + j + " " + near(0, 9) + ";";
      case 1: return "mark " + j + " " + near(0, 10) + ";";
      case 2: return "signal " + j + ";";
      case 3: return "town " + pick(pick(2) == 0 ? 100 : 12) + " " + near(0, 9) + ";";
      case 4: return "bridge " + j + ";";
      case 5: return "slip " + near(0, 10) + ";";
      case 6: return "pace " + near(1, 9) + ";";
      case 7: return "net " + out + " " + (out + 1 + pick(11 - out)) + ";";
      case 8: return "cost " + near(0, 9) + " " + near(0, 9) + ";";
      default: return "hands " + near(1, 9) + ";";
    }
  }

  private void spoil(StringBuilder text) {
    int at = pick(text.length());
    switch (pick(5)) {
      case 0: text.deleteCharAt(at); break;
      case 1: text.insert(at, " ;0123456789azN#".charAt(pick(16))); break;
      case 2: text.setCharAt(at, " ;0123456789azN#".charAt(pick(16))); break;
      case 3: text.setLength(at); break;
      default: text.insert(at, "  "); break;
    }
  }

  // ---- all that can be asked without a change

  private void lookAll() {
    for (int i = -1; i <= 13; i++) {
      due("rule " + i, x.rule(i), m.rule(i));
      due("count " + i, x.count(i), m.count(i));
    }
    for (int i = -1; i <= 5; i++) {
      for (int what = -1; what <= 4; what++) {
        due("arm " + i + " " + what, x.arm(i, what), m.arm(i, what));
        due("mark " + i + " " + what, x.mark(i, what), m.mark(i, what));
        due("town " + i + " " + what, x.town(i, what), m.town(i, what));
      }
    }
    due("fault", x.fault(), m.fault());
    due("split", x.split(), m.split());
  }

  // ---- calls

  private void callOne() {
    int joints = m.now.joints;
    int arms = Math.max(1, m.now.arms.size());
    int marks = m.now.marks.size();
    int towns = m.now.towns.size();
    // The Model walks every night: of ten JOINTS and three MARKS only now and then.
    boolean small = joints + marks <= 8 || pick(12) == 0;
    int a = near(0, arms - 1);
    int k = near(1, 10);
    int what = near(0, 1);
    int j = near(1, joints);
    int misses = near(0, (1 << joints) - 1);
    int notices = near(0, (1 << marks) - 1);
    switch (small ? pick(44) : pick(27)) {
      case 0: { int c = near(0, 127); due("feed " + c, x.feed(c), m.feed(c)); break; }
      case 1: { int n = near(0, m.tape.length()); due("end " + n, x.end(n), m.end(n)); break; }
      case 2: { int w = near(0, 2), v = near(0, 10); due("set " + w + " " + v, x.set(w, v), m.set(w, v)); break; }
      case 3: { int o = near(1, 10), in = near(2, 11); due("net " + o + " " + in, x.net(o, in), m.net(o, in)); break; }
      case 4: { boolean is = pick(2) == 0; due("signal " + j + is, x.signal(j, is), m.signal(j, is)); break; }
      case 5: { int b = near(0, joints); due("bridge " + b, x.bridge(b), m.bridge(b)); break; }
      case 6: { int i = near(0, Math.max(0, marks - 1)), v = near(0, 10); due("clear " + i + " " + v, x.clear(i, v), m.clear(i, v)); break; }
      case 7: { int v = near(0, 4); due("hang " + a + " " + v, x.hang(a, v), m.hang(a, v)); break; }
      case 8: { int t = near(0, Math.max(0, towns - 1)), n = near(0, pick(2) == 0 ? 99 : 9); due("post " + t + " " + n, x.post(t, n), m.post(t, n)); break; }
      case 9: case 10: { int w = near(0, 5); due("night " + misses + " " + notices + " " + w, x.night(misses, notices, w), m.night(misses, notices, w)); break; }
      case 11: { int c = near(0, joints); due("counts " + misses + " " + notices + " " + c, x.counts(misses, notices, c), m.counts(misses, notices, c)); break; }
      case 12: { int t = near(0, 99); due("sort " + t + " " + what, x.sort(t, what), m.sort(t, what)); break; }
      case 13: { int s = near(0, (1 << towns) - 1); due("minutes " + s, x.minutes(s), m.minutes(s)); break; }
      case 14: { int t = near(0, 99); due("hands " + t, x.hands(t), m.hands(t)); break; }
      case 15: { int c = pick(2) == 0 ? near(0, 10) : near(0, joints); due("see " + j + " " + c, x.see(j, c), m.see(j, c)); break; }
      case 16: { int n = near(0, m.seen.size()); due("forget " + n, x.forget(n), m.forget(n)); break; }
      case 17: case 18: { int seed = random.nextInt(), w = near(0, 5); due("drift " + seed + " " + w, x.drift(seed, w), m.drift(seed, w)); break; }
      case 19: { int i = near(0, 1); due("keep " + i, x.keep(i), m.keep(i)); break; }
      case 20: { int i = near(0, 1); due("back " + i, x.back(i), m.back(i)); break; }
      case 21: { int i = near(0, 3), l = near(0, 2), n = near(0, 40); due("sheet " + i + " " + l + " " + n, x.sheet(i, l, n), m.sheet(i, l, n)); break; }
      case 22: laySome(towns); break;
      case 23: case 24: { int i = near(0, 3), l = near(0, 2), f = near(0, 40), n = near(0, 20); due("read " + i + " " + l + " " + f + " " + n, x.read(i, l, f, n), m.read(i, l, f, n)); break; }
      case 25: seeOne(joints, marks); break;
      case 26: laySome(towns); break;
      default: callByOdds(a, k, what, j, joints);
    }
  }

  private void callByOdds(int a, int k, int what, int j, int joints) {
    switch (pick(14)) {
      case 0: { int w = near(0, 4); due("fits " + w, x.fits(w), m.fits(w)); break; }
      case 1: due("likely " + what, x.likely(what), m.likely(what)); break;
      case 2: case 3: { int c = near(0, 10), b = near(0, joints); due("where " + b + " " + c + " " + what, x.where(b, c, what), m.where(b, c, what)); break; }
      case 4: due("goes " + j + " " + what, x.goes(j, what), m.goes(j, what)); break;
      case 5: due("isOut " + j + " " + what, x.isOut(j, what), m.isOut(j, what)); break;
      case 6: due("had " + a + " " + what, x.had(a, what), m.had(a, what)); break;
      case 7: due("hits " + what, x.hits(what), m.hits(what)); break;
      case 8: due("torn " + what, x.torn(what), m.torn(what)); break;
      case 9: due("worth " + what, x.worth(what), m.worth(what)); break;
      case 10: { int w = pick(6) == 0 || joints <= 6 ? near(0, 2) : 3; due("best " + w, x.best(w), m.best(w)); break; }
      case 11: due("fog " + a + " " + k, x.fog(a, k), m.fog(a, k)); break;
      case 12: due("fast " + a + " " + k, x.fast(a, k), m.fast(a, k)); break;
      default: due("slack " + a + " " + k, x.slack(a, k), m.slack(a, k)); break;
    }
  }

  /** Something that can be SEEN: the COUNT of a night. */
  private void seeOne(int joints, int marks) {
    int misses = pick(1 << joints) & pick(1 << joints);
    int notices = pick(1 << marks);
    for (int i = 0; i < 1 + pick(3); i++) {
      int j = 1 + pick(joints);
      int c = m.counts(misses, notices, j);
      due("see " + j + " " + c, x.see(j, c), m.see(j, c));
    }
    for (int w = 0; w <= 4; w++) {
      due("fits " + w, x.fits(w), m.fits(w));
    }
  }

  /** A SHEET of which most can be posted. */
  private void laySome(int towns) {
    int k = near(0, 3);
    int lane = pick(3);
    int cells = pick(4) == 0 ? pick(41) : 2 * pick(21);
    if (pick(2) == 0) {
      due("sheet " + k + " " + lane + " " + cells, x.sheet(k, lane, cells), m.sheet(k, lane, cells));
    }
    int many = pick(3) == 0 ? cells : pick(5);
    for (int i = 0; i < many; i++) {
      int at = pick(20) == 0 ? near(0, 40) : i;
      int v = pick(40) == 0 ? random.nextInt() : i % 2 == 0 ? near(0, Math.max(0, towns - 1)) : pick(8) + (pick(10) == 0 ? 65536 : 0);
      due("lay " + k + " " + at + " " + v, x.lay(k, at, v), m.lay(k, at, v));
    }
    int from = pick(6) == 0 ? near(0, 40) : 0;
    int n = pick(8);
    due("read " + k + " " + lane + " " + from + " " + n, x.read(k, lane, from, n), m.read(k, lane, from, n));
    due("split", x.split(), m.split());
  }
}
