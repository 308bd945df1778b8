/**
 * Every bound of every call, in every Scene: just outside it the call is refused and has changed nothing behind it, just
 * inside it is none that is refused, and what only asks has changed nothing either.
 */
public final class RefusalTests {
  private static final int BAD = -1, STATE = -2, FULL = -3;
  private static final int LEAST = Integer.MIN_VALUE, MOST = Integer.MAX_VALUE;

  private final Scene scene;

  private RefusalTests(Scene scene) {
    this.scene = scene;
  }

  public static void main(String[] args) {
    for (Scene scene : Scene.values()) {
      new RefusalTests(scene).all();
    }
    Check.finish();
  }

  private void all() {
    sceneIsAsTold();
    tape();
    rulesAndRows();
    changesOfRules();
    changesOfRows();
    post();
    nights();
    odds();
    oddsWithoutPlace();
    whatToDo();
    letters();
    seen();
    images();
    sheets();
    cells();
    reads();
    counts();
  }

  /** Just outside the bounds, and as far outside as may be. Where there is nothing, most is less than least. */
  private static int[] outside(int least, int most) {
    return new int[] {least - 1, Math.max(most, least - 1) + 1, LEAST, MOST};
  }

  private static int[] inside(int least, int most) {
    if (most < least) {
      return new int[0];
    }
    return least == most ? new int[] {least} : new int[] {least, most};
  }

  private void bad(String call, Twins.Act act) {
    Twins.unchanged(scene, call, act, BAD);
  }

  private void asks(String call, Twins.Act act) {
    Twins.quiet(scene, call, act);
  }

  private void sceneIsAsTold() {
    MailCatch x = scene.make();
    int[] rules = {scene.joints, scene.arms, scene.marks, scene.towns};
    for (int what = 0; what < rules.length; what++) {
      Check.due(scene + ": rule " + what, x.rule(what), rules[what]);
    }
    int[] counts = {scene.seen, Integer.bitCount(scene.images), scene.bytes, scene.cells[0]};
    for (int what = 0; what < counts.length; what++) {
      Check.due(scene + ": count " + what, x.count(what), counts[what]);
    }
  }

  // Promises 2, 3
  private void tape() {
    for (int c : outside(0, 127)) {
      bad("feed " + c, x -> x.feed(c));
    }
    for (int c : new int[] {0, 32, 127}) {
      if (scene.bytes == 160) {
        Twins.unchanged(scene, "feed " + c, x -> x.feed(c), FULL);
      } else {
        Twins.alike(scene, "feed " + c + ", not so", x -> x.feed(c) - 1 + 0 * x.end(scene.bytes), x -> x.count(2));
      }
    }
    for (int n : outside(0, scene.bytes)) {
      bad("end " + n, x -> x.end(n));
    }
    Twins.unchanged(scene, "end by all", x -> x.end(scene.bytes), scene.bytes);
  }

  // Promises 5 to 9
  private void rulesAndRows() {
    Twins.quiet(scene, "fault", x -> x.fault());
    for (int what : outside(0, 12)) {
      bad("rule " + what, x -> x.rule(what));
    }
    for (int what : inside(0, 12)) {
      asks("rule " + what, x -> x.rule(what));
    }
    for (int i : outside(0, scene.arms - 1)) {
      for (int what = 0; what <= 3; what++) {
        int w = what;
        bad("arm " + i + " " + w, x -> x.arm(i, w));
      }
    }
    for (int i : inside(0, scene.arms - 1)) {
      for (int what : outside(0, 3)) {
        bad("arm " + i + " " + what, x -> x.arm(i, what));
      }
      for (int what : inside(0, 3)) {
        asks("arm " + i + " " + what, x -> x.arm(i, what));
      }
    }
    marks();
    towns();
  }

  private void marks() {
    for (int m : outside(0, scene.marks - 1)) {
      bad("mark " + m + " 0", x -> x.mark(m, 0));
      bad("mark " + m + " 1", x -> x.mark(m, 1));
    }
    for (int m : inside(0, scene.marks - 1)) {
      for (int what : outside(0, 1)) {
        bad("mark " + m + " " + what, x -> x.mark(m, what));
      }
      asks("mark " + m + " 0", x -> x.mark(m, 0));
      asks("mark " + m + " 1", x -> x.mark(m, 1));
    }
  }

  private void towns() {
    for (int t : outside(0, scene.towns - 1)) {
      bad("town " + t + " 0", x -> x.town(t, 0));
      bad("town " + t + " 1", x -> x.town(t, 1));
    }
    for (int t : inside(0, scene.towns - 1)) {
      for (int what : outside(0, 1)) {
        bad("town " + t + " " + what, x -> x.town(t, what));
      }
      asks("town " + t + " 0", x -> x.town(t, 0));
      asks("town " + t + " 1", x -> x.town(t, 1));
    }
  }

  // Promises 10 to 13
  private void changesOfRules() {
    int[] rules = {6, 12, 7};
    int[] least = {0, 1, 1};
    int[] most = {10, 9, 9};
    for (int what = 0; what <= 2; what++) {
      int w = what;
      long was = scene.make().rule(rules[w]);
      for (int v : outside(least[w], most[w])) {
        bad("set " + w + " " + v, x -> x.set(w, v));
      }
      for (int v : inside(least[w], most[w])) {
        Check.due(scene + ": set " + w + " " + v, scene.make().set(w, v), was);
      }
    }
    for (int what : outside(0, 2)) {
      for (int v : new int[] {0, 1, 5}) {
        bad("set " + what + " " + v, x -> x.set(what, v));
      }
    }
    net();
    for (int j : outside(1, scene.joints)) {
      bad("signal at " + j, x -> x.signal(j, true));
      bad("no signal at " + j, x -> x.signal(j, false));
    }
    for (int j : outside(0, scene.joints)) {
      bad("bridge " + j, x -> x.bridge(j));
    }
  }

  private void net() {
    for (int out = 0; out <= 11; out++) {
      int o = out;
      for (int in = 0; in <= 12; in++) {
        int i = in;
        if (o < 1 || o > 10 || i > 11 || i <= o) {
          bad("net " + o + " " + i, x -> x.net(o, i));
        }
      }
    }
    for (int v : outside(1, 10)) {
      bad("net " + v + " 11", x -> x.net(v, 11));
    }
    for (int v : outside(2, 11)) {
      bad("net 1 " + v, x -> x.net(1, v));
    }
    bad("net of the least", x -> x.net(LEAST, LEAST + 1));
    bad("net of the most", x -> x.net(MOST - 1, MOST));
  }

  // Promises 14, 15
  private void changesOfRows() {
    for (int m : outside(0, scene.marks - 1)) {
      bad("clear " + m + " 5", x -> x.clear(m, 5));
    }
    for (int m : inside(0, scene.marks - 1)) {
      for (int v : outside(0, 10)) {
        bad("clear " + m + " " + v, x -> x.clear(m, v));
      }
    }
    for (int i : outside(0, scene.arms - 1)) {
      bad("hang " + i + " 3", x -> x.hang(i, 3));
    }
    for (int i : inside(0, scene.arms - 1)) {
      for (int kind : outside(0, 4)) {
        bad("hang " + i + " " + kind, x -> x.hang(i, kind));
      }
    }
  }

  // Promise 16
  private void post() {
    for (int t : outside(0, scene.towns - 1)) {
      for (int n : new int[] {0, 1, 99, 100, -1}) {
        bad("post " + t + " " + n, x -> x.post(t, n));
      }
    }
    MailCatch y = scene.make();
    for (int town = 0; town < scene.towns; town++) {
      int t = town;
      int letters = y.town(t, 0);
      for (int n : outside(0, 99)) {
        bad("post " + t + " " + n, x -> x.post(t, n));
      }
      Twins.unchanged(scene, "post " + t + " 0", x -> x.post(t, 0), letters);
      if (letters > 0) {
        Twins.unchanged(scene, "post one too many to " + t, x -> x.post(t, 100 - letters), FULL);
        Twins.unchanged(scene, "post " + t + " 99", x -> x.post(t, 99), FULL);
      }
    }
  }

  // Promises 17, 18, 37
  private void nights() {
    int allMissed = (1 << scene.joints) - 1;
    int allNoticed = (1 << scene.marks) - 1;
    for (int what : inside(0, 5)) {
      for (int misses : outside(0, allMissed)) {
        bad("night " + misses + " 0 " + what, x -> x.night(misses, 0, what));
        bad("night " + misses + " all " + what, x -> x.night(misses, allNoticed, what));
      }
      for (int notices : outside(0, allNoticed)) {
        bad("night 0 " + notices + " " + what, x -> x.night(0, notices, what));
        bad("night all " + notices + " " + what, x -> x.night(allMissed, notices, what));
      }
      asks("night 0 0 " + what, x -> x.night(0, 0, what));
      asks("night all all " + what, x -> x.night(allMissed, allNoticed, what));
      asks("drift 7 " + what, x -> x.drift(7, what));
      asks("drift of the least " + what, x -> x.drift(LEAST, what));
      asks("drift of the most " + what, x -> x.drift(MOST, what));
    }
    for (int what : outside(0, 5)) {
      bad("night 0 0 " + what, x -> x.night(0, 0, what));
      bad("night all all " + what, x -> x.night(allMissed, allNoticed, what));
      bad("drift 7 " + what, x -> x.drift(7, what));
      bad("drift -1 " + what, x -> x.drift(-1, what));
    }
    for (int j : outside(0, scene.joints)) {
      bad("counts 0 0 " + j, x -> x.counts(0, 0, j));
    }
    for (int j : inside(0, scene.joints)) {
      for (int misses : outside(0, allMissed)) {
        bad("counts " + misses + " 0 " + j, x -> x.counts(misses, 0, j));
      }
      for (int notices : outside(0, allNoticed)) {
        bad("counts 0 " + notices + " " + j, x -> x.counts(0, notices, j));
      }
      asks("counts 0 0 " + j, x -> x.counts(0, 0, j));
      asks("counts all all " + j, x -> x.counts(allMissed, allNoticed, j));
    }
  }

  // Promises 19 to 22
  private void odds() {
    for (int what : inside(0, 1)) {
      for (int j : outside(0, scene.joints)) {
        bad("where " + j + " 0 " + what, x -> x.where(j, 0, what));
      }
      for (int c : outside(0, 10)) {
        bad("where 0 " + c + " " + what, x -> x.where(0, c, what));
        bad("where at the last " + c + " " + what, x -> x.where(scene.joints, c, what));
      }
      for (int j : outside(1, scene.joints)) {
        bad("goes " + j + " " + what, x -> x.goes(j, what));
        bad("isOut " + j + " " + what, x -> x.isOut(j, what));
      }
      for (int i : outside(0, scene.arms - 1)) {
        bad("had " + i + " " + what, x -> x.had(i, what));
      }
      askOdds(what);
    }
    for (int what : outside(0, 1)) {
      for (int j : inside(1, scene.joints)) {
        bad("where " + j + " 0 " + what, x -> x.where(j, 0, what));
        bad("goes " + j + " " + what, x -> x.goes(j, what));
        bad("isOut " + j + " " + what, x -> x.isOut(j, what));
      }
      bad("where 0 10 " + what, x -> x.where(0, 10, what));
      for (int i : inside(0, scene.arms - 1)) {
        bad("had " + i + " " + what, x -> x.had(i, what));
      }
    }
  }

  private void askOdds(int what) {
    for (int j : inside(0, scene.joints)) {
      for (int c : inside(0, 10)) {
        asks("where " + j + " " + c + " " + what, x -> x.where(j, c, what));
      }
    }
    for (int j : inside(1, scene.joints)) {
      asks("goes " + j + " " + what, x -> x.goes(j, what));
      asks("isOut " + j + " " + what, x -> x.isOut(j, what));
    }
    for (int i : inside(0, scene.arms - 1)) {
      asks("had " + i + " " + what, x -> x.had(i, what));
    }
  }

  // Promises 23 to 26, 36
  private void oddsWithoutPlace() {
    for (int what : outside(0, 1)) {
      bad("hits " + what, x -> x.hits(what));
      bad("torn " + what, x -> x.torn(what));
      bad("worth " + what, x -> x.worth(what));
      bad("likely " + what, x -> x.likely(what));
    }
    for (int what : inside(0, 1)) {
      asks("hits " + what, x -> x.hits(what));
      asks("torn " + what, x -> x.torn(what));
      asks("likely " + what, x -> x.likely(what));
    }
    // A numerator may well be -1: here it is not asked what it is.
    asks("worth 0", x -> 0 * x.worth(0));
    asks("worth 1", x -> x.worth(1));
    for (int what : outside(0, 2)) {
      bad("best " + what, x -> x.best(what));
    }
    asks("best 0", x -> x.best(0));
    asks("best 1", x -> 0 * x.best(1));
    asks("best 2", x -> x.best(2));
  }

  // Promises 27, 28, 29
  private void whatToDo() {
    for (int i : outside(0, scene.arms - 1)) {
      for (int k : new int[] {1, 10, 0, 11}) {
        badToDo(i, k);
      }
    }
    for (int i : inside(0, scene.arms - 1)) {
      for (int k : outside(1, 10)) {
        badToDo(i, k);
      }
      for (int k : inside(1, 10)) {
        asks("fog " + i + " " + k, x -> x.fog(i, k));
        asks("fast " + i + " " + k, x -> x.fast(i, k));
        asks("slack " + i + " " + k, x -> x.slack(i, k));
      }
    }
  }

  private void badToDo(int i, int k) {
    bad("fog " + i + " " + k, x -> x.fog(i, k));
    bad("fast " + i + " " + k, x -> x.fast(i, k));
    bad("slack " + i + " " + k, x -> x.slack(i, k));
  }

  // Promises 30, 31, 32
  private void letters() {
    for (int t : outside(0, 99)) {
      bad("sort " + t + " 0", x -> x.sort(t, 0));
      bad("sort " + t + " 1", x -> x.sort(t, 1));
      bad("hands " + t, x -> x.hands(t));
    }
    for (int t : inside(0, 99)) {
      for (int what : outside(0, 1)) {
        bad("sort " + t + " " + what, x -> x.sort(t, what));
      }
      asks("sort " + t + " 0", x -> x.sort(t, 0));
      asks("sort " + t + " 1", x -> x.sort(t, 1));
      asks("hands " + t, x -> x.hands(t));
    }
    int all = (1 << scene.towns) - 1;
    for (int set : outside(0, all)) {
      bad("minutes " + set, x -> x.minutes(set));
    }
    for (int set : inside(0, all)) {
      asks("minutes " + set, x -> x.minutes(set));
    }
  }

  // Promises 33, 34, 35
  private void seen() {
    for (int c : inside(0, 10)) {
      for (int j : outside(1, scene.joints)) {
        bad("see " + j + " " + c, x -> x.see(j, c));
      }
    }
    for (int j : inside(1, scene.joints)) {
      for (int c : outside(0, 10)) {
        bad("see " + j + " " + c, x -> x.see(j, c));
      }
      for (int c : inside(0, 10)) {
        if (scene.seen == 6) {
          Twins.unchanged(scene, "see " + j + " " + c, x -> x.see(j, c), FULL);
        } else {
          Twins.alike(scene, "see " + j + " " + c + ", not so", x -> x.see(j, c) - 1 + 0 * x.forget(scene.seen),
              x -> x.count(0));
        }
      }
    }
    for (int n : outside(0, scene.seen)) {
      bad("forget " + n, x -> x.forget(n));
    }
    Twins.unchanged(scene, "forget none", x -> x.forget(scene.seen), scene.seen);
    for (int what : outside(0, 4)) {
      bad("fits " + what, x -> x.fits(what));
    }
    for (int what = 0; what <= 4; what++) {
      int w = what;
      asks("fits " + w, x -> x.fits(w));
    }
  }

  // Promises 38, 39
  private void images() {
    for (int k : outside(0, 1)) {
      bad("keep " + k, x -> x.keep(k));
      bad("back " + k, x -> x.back(k));
    }
    for (int k = 0; k <= 1; k++) {
      int image = k;
      boolean is = (scene.images >> k & 1) == 1;
      if (!is) {
        Twins.unchanged(scene, "back " + k, x -> x.back(image), STATE);
      }
      Check.due(scene + ": keep " + k, scene.make().keep(k), is ? 1 : 0);
    }
  }

  // Promise 40
  private void sheets() {
    for (int n : new int[] {0, 40, 41, -1}) {
      for (int k : outside(0, 3)) {
        bad("sheet " + k + " 0 " + n, x -> x.sheet(k, 0, n));
      }
      for (int lane : outside(0, 2)) {
        bad("sheet 0 " + lane + " " + n, x -> x.sheet(0, lane, n));
        bad("sheet 3 " + lane + " " + n, x -> x.sheet(3, lane, n));
      }
    }
    for (int k = 0; k <= 3; k++) {
      int sheet = k;
      for (int lane = 0; lane <= 2; lane++) {
        int l = lane;
        for (int n : new int[] {41, MOST}) {
          bad("sheet " + k + " " + l + " " + n, x -> x.sheet(sheet, l, n));
        }
        for (int n : new int[] {-1, LEAST}) {
          Twins.unchanged(scene, "sheet " + k + " " + l + " " + n, x -> x.sheet(sheet, l, n), -14);
        }
      }
    }
  }

  // Promise 41
  private void cells() {
    for (int k : outside(0, 3)) {
      for (int i : new int[] {0, -1, 40}) {
        bad("lay " + k + " " + i, x -> x.lay(k, i, 9));
      }
    }
    for (int k = 0; k <= 3; k++) {
      int sheet = k;
      int cells = scene.cells[k];
      int fault = cells < 0 ? -11 : -12;
      for (int i : outside(0, Math.max(cells, 0) - 1)) {
        Twins.unchanged(scene, "lay " + k + " " + i, x -> x.lay(sheet, i, 9), fault);
      }
      if (cells < 0) {
        Twins.unchanged(scene, "lay " + k + " 39", x -> x.lay(sheet, 39, 9), fault);
      } else if (cells > 0) {
        Check.due(scene + ": lay the first of " + k, scene.make().lay(k, 0, 9), 1);
        Check.due(scene + ": lay the last of " + k, scene.make().lay(k, cells - 1, 9), 1);
      }
    }
  }

  // Promises 42, 43
  private void reads() {
    for (int n : new int[] {0, 1, 20, 21, -1}) {
      for (int k : outside(0, 3)) {
        bad("read " + k + " 0 0 " + n, x -> x.read(k, 0, 0, n));
      }
      for (int k = 0; k <= 3; k++) {
        int sheet = k;
        for (int lane : outside(0, 2)) {
          bad("read " + k + " " + lane + " 0 " + n, x -> x.read(sheet, lane, 0, n));
        }
      }
    }
    for (int k = 0; k <= 3; k++) {
      int sheet = k;
      for (int lane = 0; lane <= 2; lane++) {
        int l = lane;
        for (int n : outside(0, 20)) {
          bad("read " + k + " " + l + " 0 " + n, x -> x.read(sheet, l, 0, n));
          bad("read " + k + " " + l + " -1 " + n, x -> x.read(sheet, l, -1, n));
        }
        for (int f : new int[] {0, -1, 40, LEAST, MOST}) {
          Twins.changed(scene, "read " + k + " " + l + " " + f + " 0", x -> x.read(sheet, l, f, 0), 0, "split", 0);
        }
      }
    }
    Twins.quiet(scene, "split", x -> x.split());
  }

  // Promise 44
  private void counts() {
    for (int what : outside(0, 5)) {
      bad("count " + what, x -> x.count(what));
    }
    for (int what = 0; what <= 5; what++) {
      int w = what;
      asks("count " + w, x -> x.count(w));
    }
  }
}
