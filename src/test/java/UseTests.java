/** An object is used for 512 calls: it answers as due to the last of them, whatever the others were. */
public final class UseTests {
  private static final int CALLS = 512;
  private static final int BAD = -1, FULL = -3;

  public static void main(String[] args) {
    tapeAllTheTime();
    textsAllTheTime();
    threeFullTapes();
    refusedAllTheTime();
    changedAllTheTime();
    seenAllTheTime();
    imagesAllTheTime();
    sheetsAllTheTime();
    dearestAllTheTime();
    manyObjects();
    twoObjects();
    Check.finish();
  }

  private static void tapeAllTheTime() {
    MailCatch x = new MailCatch();
    for (int call = 1; call <= CALLS; call++) {
      Check.due("feed as call " + call, x.feed(call % 128), call <= 160 ? call : FULL);
    }
    MailCatch y = new MailCatch();
    for (int call = 1; call <= CALLS; call += 2) {
      Check.due("feed as call " + call, y.feed(call % 128), 1);
      Check.due("end behind it", y.end(0), 1);
    }
  }

  private static void textsAllTheTime() {
    MailCatch x = new MailCatch();
    for (int call = 1; call <= CALLS; call++) {
      Check.due("text as call " + call, x.text(), 0);
    }
    MailCatch y = new MailCatch();
    for (int call = 1; call + 3 <= CALLS; call += 4) {
      Check.due("feed", y.feed('#'), 1);
      Check.due("text", y.text(), -10);
      Check.due("fault", y.fault(), 1);
      Check.due("bytes", y.count(2), 0);
    }
  }

  /** 3 times 161 calls, and 29. */
  private static void threeFullTapes() {
    MailCatch x = new MailCatch();
    for (int time = 1; time <= 3; time++) {
      Check.due("text of 160 bytes", Check.tell(x, " ".repeat(153) + "slip " + time + ";"), 1);
    }
    for (int call = 484; call < CALLS; call++) {
      Check.due("slip as call " + call, x.rule(6), 3);
    }
    Check.due("the last call", x.set(0, 0), 3);
  }

  private static void refusedAllTheTime() {
    MailCatch x = new MailCatch();
    for (int call = 1; call < CALLS; call++) {
      Check.due("set as call " + call, x.set(call % 3, 11), BAD);
    }
    Check.due("the last call", x.where(6, 6, 1), 1000000);
  }

  private static void changedAllTheTime() {
    MailCatch x = new MailCatch();
    int was = 2;
    for (int call = 1; call <= CALLS; call++) {
      int out = 1 + call % 10;
      Check.due("net as call " + call, x.net(out, 11), was);
      was = out;
    }
    MailCatch y = new MailCatch();
    for (int call = 1; call < CALLS; call++) {
      Check.due("signal as call " + call, y.signal(1 + call % 6, call / 6 % 2 == 0), call > 6 && call / 6 % 2 == 1 ? 1 : 0);
    }
    Check.due("the last call", y.count(5), 4);
  }

  private static void seenAllTheTime() {
    MailCatch x = new MailCatch();
    for (int call = 1; call + 8 <= CALLS; call += 9) {
      for (int i = 1; i <= 6; i++) {
        Check.due("see", x.see(i, i), i);
      }
      Check.due("see the 7th", x.see(1, 1), FULL);
      Check.due("fits", x.fits(0), 1);
      Check.due("forget", x.forget(0), 6);
    }
  }

  private static void imagesAllTheTime() {
    MailCatch x = new MailCatch();
    for (int call = 1; call + 3 <= CALLS; call += 4) {
      Check.due("keep", x.keep(call / 4 % 2), call < 8 ? 0 : 1);
      Check.due("set", x.set(0, 1 + call % 9), 1);
      Check.due("back", x.back(call / 4 % 2), 6);
      Check.due("slip", x.rule(6), 1);
    }
  }

  private static void sheetsAllTheTime() {
    MailCatch x = Check.told("town 0 1;");
    for (int call = 11; call + 4 <= CALLS; call += 5) {
      int time = (call - 11) / 5;
      Check.due("sheet", x.sheet(time % 4, time % 3, 40), 1);
      Check.due("lay", x.lay(time % 4, 39, 1), 1);
      Check.due("read", x.read(time % 4, time % 3, 0, 20), time < 99 ? 20 : -39);
      Check.due("split", x.split(), 0);
      Check.due("LETTERS", x.count(4), Math.min(99, time + 1));
    }
  }

  /** What asks most, of a line that has most: the same each time. */
  private static void dearestAllTheTime() {
    String text = "joints 10;arm low 2 9;arm true 5 9;arm heavy 9 9;mark 1 3;mark 4 7;mark 8 9;bridge 7;slip 3;net 2 9;cost 2 1;";
    MailCatch x = Check.told(text);
    int left = CALLS - text.length() - 1;
    long best = x.best(0);
    long numerator = x.best(1);
    long denominator = x.best(2);
    for (int call = 3; call + 5 <= left; call += 6) {
      Check.due("best", x.best(0), best);
      Check.due("best", x.best(1), numerator);
      Check.due("best", x.best(2), denominator);
      Check.due("fits", x.fits(0), 8192);
      Check.due("fits", x.fits(1), 0);
      Check.due("likely", x.likely(1), 1);
    }
  }

  private static void manyObjects() {
    for (int i = 0; i < 300; i++) {
      MailCatch x = new MailCatch();
      for (int call = 1; call < CALLS; call++) {
        x.best(call % 3);
      }
      Check.due("the last call", x.best(0), 102);
    }
  }

  /** What is told to one is not told to the other. */
  private static void twoObjects() {
    MailCatch x = Check.told("joints 3;arm true 1 1;mark 1 1;town 5 5;slip 9;");
    MailCatch y = new MailCatch();
    x.see(1, 1);
    x.keep(0);
    x.sheet(0, 1, 3);
    x.feed(1);
    x.read(1, 1, 0, 1);
    int[] rules = {6, 0, 0, 0, 0, 0, 1, 5, 2, 4, 1, 5, 3};
    for (int what = 0; what < rules.length; what++) {
      Check.due("another's rule " + what, y.rule(what), rules[what]);
    }
    int[] counts = {0, 0, 0, -4, 0, 0};
    for (int what = 0; what < counts.length; what++) {
      Check.due("another's count " + what, y.count(what), counts[what]);
    }
    Check.due("another's split", y.split(), 0);
    Check.tell(y, "#");
    Check.due("another's fault", x.fault(), 0);
    Check.due("one's joints", x.rule(0), 3);
    Check.due("one's bytes", x.count(2), 1);
  }
}
