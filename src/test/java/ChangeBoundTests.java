import java.util.Map;
import java.util.TreeSet;

/** What is taken: from bound to bound each call answers what was, and changes what it says and nothing else. */
public final class ChangeBoundTests {
  private static final int STATE = -2;

  private final Scene scene;

  private ChangeBoundTests(Scene scene) {
    this.scene = scene;
  }

  public static void main(String[] args) {
    for (Scene scene : Scene.values()) {
      ChangeBoundTests tests = new ChangeBoundTests(scene);
      tests.slip();
      tests.hands();
      tests.pace();
      tests.net();
      tests.signals();
      tests.bridges();
      tests.marks();
      tests.arms();
      tests.posts();
      tests.tape();
      tests.seen();
      tests.keeps();
      tests.backs();
      tests.sheets();
      tests.reads();
    }
    imageByImage();
    Check.finish();
  }

  private MailCatch fresh() {
    return scene.make();
  }

  // Promise 10
  private void slip() {
    int was = fresh().rule(6);
    for (int v = 0; v <= 10; v++) {
      int slip = v;
      Twins.changed(scene, "set 0 " + v, x -> x.set(0, slip), was, "rule 6", v);
    }
  }

  private void hands() {
    int was = fresh().rule(12);
    for (int v = 1; v <= 9; v++) {
      int hands = v;
      Twins.changed(scene, "set 1 " + v, x -> x.set(1, hands), was, "rule 12", v);
    }
  }

  /** HOLDS goes with it. */
  private void pace() {
    int was = fresh().rule(7);
    for (int v = 1; v <= 9; v++) {
      int pace = v;
      Object[] then = new Object[2 + 2 * scene.arms];
      then[0] = "rule 7";
      then[1] = v;
      for (int i = 0; i < scene.arms; i++) {
        then[2 + 2 * i] = "arm " + i + " 3";
        then[3 + 2 * i] = holds(fresh().arm(i, 0), v);
      }
      Twins.changed(scene, "set 2 " + v, x -> x.set(2, pace), was, then);
    }
  }

  private static int holds(int kind, int pace) {
    int[] less = {0, pace >= 5 ? 3 : 0, pace / 3, pace / 3 + 1, (pace >= 5 ? 3 : 0) + 1};
    return Math.max(0, 10 - pace / 2 - less[kind]);
  }

  // Promise 11
  private void net() {
    int was = fresh().rule(8);
    for (int out = 1; out <= 10; out++) {
      for (int in = out + 1; in <= 11; in++) {
        int o = out;
        int i = in;
        Twins.changed(scene, "net " + o + " " + i, x -> x.net(o, i), was, "rule 8", o, "rule 9", i);
      }
    }
  }

  // Promises 12, 13
  private void signals() {
    int bits = fresh().rule(4);
    for (int joint = 1; joint <= scene.joints; joint++) {
      int j = joint;
      int bit = 1 << (j - 1);
      int was = (bits & bit) != 0 ? 1 : 0;
      Twins.changed(scene, "signal at " + j, x -> x.signal(j, true), was,
          "rule 4", bits | bit, "count 5", Integer.bitCount(bits | bit));
      Twins.changed(scene, "no signal at " + j, x -> x.signal(j, false), was,
          "rule 4", bits & ~bit, "count 5", Integer.bitCount(bits & ~bit));
    }
  }

  private void bridges() {
    int was = fresh().rule(5);
    for (int joint = 0; joint <= scene.joints; joint++) {
      int j = joint;
      Twins.changed(scene, "bridge " + j, x -> x.bridge(j), was, "rule 5", j);
    }
  }

  // Promises 14, 15
  private void marks() {
    for (int mark = 0; mark < scene.marks; mark++) {
      int m = mark;
      int was = fresh().mark(m, 1);
      for (int clear = 0; clear <= 10; clear++) {
        int v = clear;
        Twins.changed(scene, "clear " + m + " " + v, x -> x.clear(m, v), was, "mark " + m + " 1", v);
      }
    }
  }

  private void arms() {
    for (int arm = 0; arm < scene.arms; arm++) {
      int i = arm;
      int was = fresh().arm(i, 0);
      for (int k = 0; k <= 4; k++) {
        int kind = k;
        Twins.changed(scene, "hang " + i + " " + kind, x -> x.hang(i, kind), was,
            "arm " + i + " 0", kind, "arm " + i + " 3", holds(kind, fresh().rule(7)));
      }
    }
  }

  // Promise 16
  private void posts() {
    for (int town = 0; town < scene.towns; town++) {
      int t = town;
      int had = fresh().town(t, 0);
      int all = fresh().count(4);
      for (int more : new int[] {0, 1, 99 - had}) {
        if (had + more <= 99) {
          Twins.changed(scene, "post " + t + " " + more, x -> x.post(t, more), had + more,
              "town " + t + " 0", had + more, "count 4", all + more);
        }
      }
    }
  }

  // Promises 2, 3
  private void tape() {
    for (int bytes = 0; bytes <= scene.bytes; bytes++) {
      MailCatch x = fresh();
      Check.due(scene + ": end " + bytes, x.end(bytes), scene.bytes);
      Check.due(scene + ": bytes", x.count(2), bytes);
      if (bytes < 160) {
        Check.due(scene + ": feed behind them", x.feed(127), bytes + 1);
      }
      Check.due(scene + ": faults stay", x.fault() * 10 + x.split(), fresh().fault() * 10 + fresh().split());
    }
    // Bytes taken away and fed again are the same.
    Twins.alike(scene, "end and feed", x -> {
      x.end(0);
      Check.feed(x, "slip 3;");
      return x.count(2);
    }, x -> {
      x.end(0);
      Check.feed(x, "slip 4#");
      x.end(5);
      Check.feed(x, "3;");
      return x.count(2);
    });
  }

  // Promises 33, 34
  private void seen() {
    for (int kept = 0; kept <= scene.seen; kept++) {
      int n = kept;
      MailCatch x = fresh();
      Check.due(scene + ": forget " + n, x.forget(n), scene.seen);
      Check.due(scene + ": SEEN", x.count(0), n);
      Check.due(scene + ": forget again", x.forget(n), n);
      Twins.alike(scene, "what was forgotten is gone", y -> {
        y.forget(n);
        return n < 6 ? y.see(scene.joints, 10) : n;
      }, y -> {
        y.forget(n);
        for (int i = n; i < 6; i++) {
          y.see(1, 0);
        }
        y.forget(n);
        return n < 6 ? y.see(scene.joints, 10) : n;
      });
    }
  }

  // ---- IMAGES

  private static boolean isOfNow(String name) {
    return name.matches("(rule|arm|mark|town) .*|count [45]");
  }

  /** What an IMAGE has by the name that it has now: "image 1: arm 0" is KIND, "image 1: mark 0" CLEAR. */
  private static String nameNow(String name) {
    String part = name.substring("image 0: ".length());
    if (part.equals("joints")) {
      return "rule 0";
    }
    if (part.startsWith("rule")) {
      return part;
    }
    return part + (part.startsWith("mark") ? " 1" : " 0");
  }

  // Promise 38
  private void keeps() {
    for (int k = 0; k <= 1; k++) {
      MailCatch x = fresh();
      boolean was = (scene.images >> k & 1) == 1;
      Check.due(scene + ": keep " + k, x.keep(k), was ? 1 : 0);
      Map<String, Long> before = Look.of(fresh());
      Map<String, Long> behind = Look.of(x);
      for (String name : behind.keySet()) {
        if (name.startsWith("image " + k)) {
          Check.due(scene + ": keep " + k + ", " + name, behind.get(name), before.get(nameNow(name)));
        } else if (name.equals("count 1")) {
          Check.due(scene + ": keep " + k + ", IMAGES", behind.get(name), Integer.bitCount(scene.images | 1 << k));
        } else {
          Check.holds(scene + ": keep " + k + " leaves " + name, behind.get(name).equals(before.get(name)));
        }
      }
      Check.due(scene + ": keep again", keptTwice(k), 1);
    }
  }

  private int keptTwice(int k) {
    MailCatch x = fresh();
    x.keep(k);
    return x.keep(k);
  }

  // Promise 39
  private void backs() {
    for (int k = 0; k <= 1; k++) {
      MailCatch x = fresh();
      boolean is = (scene.images >> k & 1) == 1;
      Check.due(scene + ": back " + k, x.back(k), is ? scene.joints : STATE);
      Map<String, Long> before = Look.of(fresh());
      Map<String, Long> behind = Look.of(x);
      for (String name : new TreeSet<>(before.keySet())) {
        if (is && name.startsWith("image " + k)) {
          Check.due(scene + ": back " + k + ", " + nameNow(name), behind.get(nameNow(name)), before.get(name));
        }
        if (!is || !isOfNow(name)) {
          Check.holds(scene + ": back " + k + " leaves " + name, before.get(name).equals(behind.get(name)));
        }
      }
      // Once more changes nothing more.
      int image = k;
      Twins.alike(scene, "back " + k + " twice", y -> {
        y.back(image);
        return y.back(image);
      }, y -> y.back(image));
    }
  }

  private static void imageByImage() {
    MailCatch x = Check.told("joints 4;arm low 1 2;mark 2 3;town 4 5;slip 6;pace 7;net 8 9;cost 8 7;signal 4;bridge 3;");
    Check.due("no image", x.back(0), STATE);
    Check.due("keep 0", x.keep(0), 0);
    Check.due("back 1", x.back(1), STATE);
    for (int slip = 0; slip <= 10; slip++) {
      x.set(0, slip);
      Check.due("keep 1, slip " + slip, x.keep(1), slip == 0 ? 0 : 1);
      Check.due("back 0", x.back(0), 4);
      Check.due("slip of image 0", x.rule(6), 6);
      Check.due("back 1", x.back(1), 4);
      Check.due("slip of image 1", x.rule(6), slip);
    }
    // What is changed behind back() is not changed in the IMAGE.
    x.back(0);
    x.post(0, 90);
    x.clear(0, 9);
    x.hang(0, 0);
    x.signal(4, false);
    Check.due("back 0", x.back(0), 4);
    int[] rules = {4, 1, 1, 1, 8, 3, 6, 7, 8, 9, 8, 7, 3};
    for (int what = 0; what < rules.length; what++) {
      Check.due("back 0: rule " + what, x.rule(what), rules[what]);
    }
    Check.due("back 0: LETTERS", x.town(0, 0), 4);
    Check.due("back 0: CLEAR", x.mark(0, 1), 3);
    Check.due("back 0: KIND", x.arm(0, 0), 4);
    // An IMAGE of an object is not one of another.
    Check.due("another's image", new MailCatch().back(0), STATE);
  }

  // ---- SHEETS

  // Promise 40
  private void sheets() {
    for (int k = 0; k < 4; k++) {
      for (int lane = 0; lane <= 2; lane++) {
        for (int n : new int[] {0, 1, 2, 39, 40}) {
          MailCatch x = fresh();
          Check.due(scene + ": sheet " + k + " " + lane + " " + n, x.sheet(k, lane, n), 1);
          Map<String, Long> before = Look.of(fresh());
          Map<String, Long> behind = Look.of(x);
          for (String name : before.keySet()) {
            boolean isOfIt = name.startsWith("sheet " + k) || k == 0 && name.equals("count 3");
            Check.holds(scene + ": sheet " + k + " leaves " + name, isOfIt || before.get(name).equals(behind.get(name)));
          }
          String sheet = "sheet " + k + ": ";
          Check.due(scene + ": " + sheet + "lane", behind.get(sheet + "lane"), lane);
          // Where there is a TOWN, CELLS 0 can be read.
          int came = scene.towns == 0 && n > 1 ? -20 : n / 2;
          Check.due(scene + ": " + sheet + "came", behind.get(sheet + "came"), came);
          Check.due(scene + ": CELLS of SHEET 0", behind.get("count 3"), k == 0 ? n : scene.cells[0]);
        }
      }
    }
  }

  // Promises 42, 43: what can not be read changes split() alone.
  private void reads() {
    for (int sheet = 0; sheet < 4; sheet++) {
      int k = sheet;
      MailCatch y = fresh();
      for (int as = 0; as <= 2; as++) {
        int lane = as;
        long answer = y.read(k, lane, -1, 1);
        Check.due(scene + ": read " + k + " " + lane + " -1 1", answer, 0);
        Twins.changed(scene, "read " + k + " " + lane + " -1 1", x -> x.read(k, lane, -1, 1), 0, "split", y.split());
        boolean isNothing = scene.cells[k] < 0;
        Check.holds(scene + ": NULL where there is nothing", (y.split() == 1) == isNothing);
      }
    }
  }
}
