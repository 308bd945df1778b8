import java.util.LinkedHashMap;
import java.util.Map;

/**
 * All of an object that calls can tell, by names. To see what stands in SEEN, IMAGES, SHEETS and on THE TAPE they are
 * used up: the object is of no use behind it. It takes some two hundred calls.
 */
final class Look {
  private final MailCatch x;
  private final Map<String, Long> told = new LinkedHashMap<>();

  private Look(MailCatch x) {
    this.x = x;
  }

  static Map<String, Long> of(MailCatch x) {
    Look look = new Look(x);
    look.atWhatIs();
    look.atWhatIsSeen();
    look.atImages();
    look.atSheets();
    look.atTheTape();
    return look.told;
  }

  private void note(String name, long answer) {
    told.put(name, answer);
  }

  private void atWhatIs() {
    atRules("");
    for (int what = 0; what <= 5; what++) {
      note("count " + what, x.count(what));
    }
    note("fault", x.fault());
    note("split", x.split());
    atRows("");
  }

  private void atRules(String when) {
    for (int what = 0; what <= 12; what++) {
      note(when + "rule " + what, x.rule(what));
    }
  }

  private void atRows(String when) {
    for (int i = 0; i < 3 && x.arm(i, 0) >= 0; i++) {
      for (int what = 0; what <= 3; what++) {
        note(when + "arm " + i + " " + what, x.arm(i, what));
      }
    }
    for (int m = 0; m < 3 && x.mark(m, 0) >= 0; m++) {
      note(when + "mark " + m + " 0", x.mark(m, 0));
      note(when + "mark " + m + " 1", x.mark(m, 1));
    }
    for (int t = 0; t < 5 && x.town(t, 0) >= 0; t++) {
      note(when + "town " + t + " 0", x.town(t, 0));
      note(when + "town " + t + " 1", x.town(t, 1));
    }
  }

  private void atWhatIsSeen() {
    for (int what = 0; what <= 4; what++) {
      note("fits " + what, x.fits(what));
    }
    for (int n = x.count(0) - 1; n >= 0; n--) {
      note("forget " + n, x.forget(n));
      note("fits by the first " + n, x.fits(0));
    }
  }

  private void atImages() {
    for (int k = 0; k <= 1; k++) {
      String when = "image " + k + ": ";
      int joints = x.back(k);
      note(when + "joints", joints);
      if (joints < 0) {
        continue;
      }
      for (int what : new int[] {4, 5, 6, 7, 8, 9, 12}) {
        note(when + "rule " + what, x.rule(what));
      }
      for (int i = 0; i < 3 && x.arm(i, 0) >= 0; i++) {
        note(when + "arm " + i, x.arm(i, 0));
      }
      for (int m = 0; m < 3 && x.mark(m, 0) >= 0; m++) {
        note(when + "mark " + m, x.mark(m, 1));
      }
      for (int t = 0; t < 5 && x.town(t, 0) >= 0; t++) {
        note(when + "town " + t, x.town(t, 0));
      }
    }
  }

  private void atSheets() {
    for (int k = 0; k < 4; k++) {
      String when = "sheet " + k + ": ";
      int lane = laneOf(k);
      note(when + "lane", lane);
      if (lane < 0) {
        continue;
      }
      int[] had = letters();
      int came = x.read(k, lane, 0, 20);
      note(when + "came", came);
      note(when + "split", x.split());
      int[] has = letters();
      for (int t = 0; t < has.length; t++) {
        note(when + "more for town " + t, has[t] - had[t]);
      }
      // Two CELLS came each time: one more may be behind them.
      note(when + "one cell more", x.lay(k, 2 * Math.max(came, 0), 0));
    }
  }

  private int[] letters() {
    int[] letters = new int[5];
    for (int t = 0; t < 5 && x.town(t, 0) >= 0; t++) {
      letters[t] = x.town(t, 0);
    }
    return letters;
  }

  /** A CELL -1 there is in none: what the machine finds ahead of that is NULL or CAST. */
  private int laneOf(int k) {
    for (int lane = 0; lane <= 2; lane++) {
      x.read(k, lane, -1, 1);
      if (x.split() == 2) {
        return lane;
      }
    }
    return -x.split();
  }

  private void atTheTape() {
    note("tape: text", x.text());
    note("tape: fault", x.fault());
    atRules("tape: ");
    atRows("tape: ");
  }
}
