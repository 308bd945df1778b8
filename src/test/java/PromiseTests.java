/** For each promise what the document says, worked out by hand. */
public final class PromiseTests {
  private static final int BAD = -1, STATE = -2, FULL = -3, NONE = -4;

  /** Three JOINTS, an ARM and a MARK at 2, a SIGNAL and the BRIDGE at 3; the net out by 1, in by 3. */
  private static final String SHORT_LINE = "joints 3;arm true 2 4;mark 2 5;signal 3;bridge 3;slip 2;pace 5;"
      + "net 1 3;cost 2 5;town 10 2;town 7 3;town 0 9;hands 4;";

  public static void main(String[] args) {
    constants();
    newObject();
    tape();
    texts();
    faultsOfSigns();
    faultsOfNumbers();
    faultsOfRepetition();
    faultsOfRows();
    faultsOfJoints();
    whatATextReplaces();
    rulesAndRows();
    holds();
    changes();
    post();
    nights();
    counts();
    where();
    netByOdds();
    worthByOdds();
    best();
    fogFastSlack();
    letters();
    seen();
    drift();
    images();
    sheets();
    reads();
    counted();
    Check.finish();
  }

  private static void constants() {
    Check.due("BAD", MailCatch.BAD, -1);
    Check.due("STATE", MailCatch.STATE, -2);
    Check.due("FULL", MailCatch.FULL, -3);
    Check.due("NONE", MailCatch.NONE, -4);
  }

  // Promise 1
  private static void newObject() {
    MailCatch x = new MailCatch();
    int[] first = {6, 0, 0, 0, 0, 0, 1, 5, 2, 4, 1, 5, 3};
    for (int what = 0; what < first.length; what++) {
      Check.due("new: rule " + what, x.rule(what), first[what]);
    }
    int[] counted = {0, 0, 0, NONE, 0, 0};
    for (int what = 0; what < counted.length; what++) {
      Check.due("new: count " + what, x.count(what), counted[what]);
    }
    Check.due("new: fault", x.fault(), 0);
    Check.due("new: split", x.split(), 0);
    Check.due("new: back", x.back(0), STATE);
    for (int k = 0; k < 4; k++) {
      Check.due("new: lay", x.lay(k, 0, 0), -11);
    }
  }

  // Promises 2, 3
  private static void tape() {
    MailCatch x = new MailCatch();
    Check.due("feed -1", x.feed(-1), BAD);
    Check.due("feed 128", x.feed(128), BAD);
    Check.due("feed 0", x.feed(0), 1);
    Check.due("feed 127", x.feed(127), 2);
    Check.due("count 2", x.count(2), 2);
    Check.due("end -1", x.end(-1), BAD);
    Check.due("end 3", x.end(3), BAD);
    Check.due("end 2", x.end(2), 2);
    Check.due("end 1", x.end(1), 2);
    Check.due("end 1 again", x.end(1), 1);
    Check.due("end 0", x.end(0), 1);
    for (int i = 1; i <= 160; i++) {
      Check.due("feed the " + i + "th", x.feed(32), i);
    }
    Check.due("feed the 161st", x.feed(32), FULL);
    Check.due("feed 128 when full", x.feed(128), BAD);
    Check.due("end 160", x.end(160), 160);
    Check.due("160 blanks", x.text(), 0);
    Check.due("the tape behind it", x.count(2), 0);
    // What end() left is what text() reads.
    Check.feed(x, "slip 7;#");
    Check.due("end 7", x.end(7), 8);
    Check.due("text", x.text(), 1);
    Check.due("slip", x.rule(6), 7);
  }

  // Promises 4, 5
  private static void texts() {
    MailCatch x = new MailCatch();
    Check.due("no byte", x.text(), 0);
    Check.due("all that a line can tell", Check.tell(x, SHORT_LINE), 13);
    Check.due("fault", x.fault(), 0);
    Check.due("tape", x.count(2), 0);
    taken("  joints  7 ;  ", 1);
    taken("joints7;arm true4 9;net1 2;", 3);
    taken("joints 07;slip 00;", 2);
    taken("signal 1;signal 2;signal 6;", 3);
    taken("town 1 1;town 1 1;", 2);
    taken("arm low 10 0;joints 10;", 2);
    taken("net 10 11;", 1);
    taken("joints 2;slip 0;pace 1;net 1 2;cost 0 0;hands 1;bridge 1;", 7);
    taken("joints 10;slip 10;pace 9;cost 9 9;hands 9;bridge 10;", 6);
  }

  private static void taken(String text, int lines) {
    MailCatch x = new MailCatch();
    Check.due(text, Check.tell(x, text), lines);
    Check.due(text + " fault", x.fault(), 0);
  }

  private static void refused(String text, int fault, int place) {
    MailCatch x = Check.told("joints 9;slip 3;mark 9 9;");
    x.see(9, 9);
    x.keep(1);
    Check.due("'" + text + "'", Check.tell(x, text), -10 - place);
    Check.due("'" + text + "' fault", x.fault(), fault);
    Check.due("'" + text + "' leaves what was told", x.rule(0) * 10 + x.rule(6), 93);
    Check.due("'" + text + "' leaves MARKS", x.mark(0, 0) * 10 + x.rule(2), 91);
    Check.due("'" + text + "' leaves SEEN, IMAGES", x.count(0) * 10 + x.count(1), 11);
    Check.due("'" + text + "' empties THE TAPE", x.count(2), 0);
    Check.due("'" + text + "' then another", Check.tell(x, ""), 0);
    Check.due("'" + text + "' then no fault", x.fault(), 0);
  }

  private static void faultsOfSigns() {
    refused("#", 1, 0);
    refused("slip 1;\t", 1, 7);
    refused("Slip 1;", 1, 0);
    refused("slip -1;", 1, 5);
    refused("slip 100;", 1, 5);
    refused("slip  001;", 1, 6);
    refused("slip 1 100;", 1, 7);
    refused("slip 1;123", 1, 7);
    refused("sack 1;", 2, 0);
    refused("true 1;", 2, 0);
    refused("joint 7;", 2, 0);
    refused("jointss 7;", 2, 0);
    refused("armtrue 1 1;", 2, 0);
    refused("arm joints 1 1;", 2, 4);
    refused("arm 1 1;", 2, 4);
    refused("arm ;", 2, 4);
    refused("arm", 2, 3);
    refused("arm  ", 2, 5);
    refused("7;", 2, 0);
    refused(";", 2, 0);
    refused("slip 1;;", 2, 7);
    refused("slip", 2, 4);
    refused("slip 1", 2, 6);
    refused("slip 1 ", 2, 7);
    refused("slip;", 2, 4);
    refused("slip slip;", 2, 5);
    refused("slip 1 2;", 2, 7);
    refused("slip 1 pace 2;", 2, 7);
    refused("net 1;", 2, 5);
    refused("cost 1", 2, 6);
    refused("mark 1;", 2, 6);
    refused("town 1;", 2, 6);
    refused("town 1 1 1;", 2, 9);
    refused("signal 1 1;", 2, 9);
    refused("arm true 1;", 2, 10);
    refused("arm low low 1;", 2, 8);
  }

  private static void faultsOfNumbers() {
    refused("joints 1;", 3, 7);
    refused("joints 11;", 3, 7);
    refused("arm true 0 1;", 3, 9);
    refused("arm true 11 1;", 3, 9);
    refused("arm true 1 10;", 3, 11);
    refused("mark 0 1;", 3, 5);
    refused("mark 11 1;", 3, 5);
    refused("mark 1 11;", 3, 7);
    refused("signal 0;", 3, 7);
    refused("signal 11;", 3, 7);
    refused("bridge 0;", 3, 7);
    refused("bridge 11;", 3, 7);
    refused("slip 11;", 3, 5);
    refused("pace 0;", 3, 5);
    refused("pace 10;", 3, 5);
    refused("net 0 1;", 3, 4);
    refused("net 11 12;", 3, 4);
    refused("net 3 3;", 3, 6);
    refused("net 3 2;", 3, 6);
    refused("net 10 12;", 3, 7);
    refused("cost 10 1;", 3, 5);
    refused("cost 1 10;", 3, 7);
    refused("town 1 10;", 3, 7);
    refused("hands 0;", 3, 6);
    refused("hands 10;", 3, 6);
    // A TOKEN is read when the one before has been taken: what stands behind is not met.
    refused("joints 11 #", 3, 7);
    refused("joints 11 100", 3, 7);
  }

  private static void faultsOfRepetition() {
    refused("joints 3;joints 3;", 4, 9);
    refused("bridge 3;bridge 3;", 4, 9);
    refused("slip 3; slip 3;", 4, 8);
    refused("pace 3;pace", 4, 7);
    refused("net 1 2;net #", 4, 8);
    refused("cost 1 2;cost 1 2;", 4, 9);
    refused("hands 3;hands 3;", 4, 8);
    refused("arm true 1 1;arm low 1 1;", 4, 21);
    refused("arm true 1 1;arm low 01 #", 4, 21);
    refused("mark 1 1;mark 1 1;", 4, 14);
    refused("signal 1;signal 1;", 4, 16);
    taken("arm true 1 1;mark 1 1;signal 1;bridge 1;", 4);
  }

  private static void faultsOfRows() {
    refused("arm low 1 1;arm low 2 1;arm low 3 1;arm", 5, 36);
    refused("arm low 1 1;arm low 2 1;arm low 3 1;arm #", 5, 36);
    refused("mark 1 1;mark 2 1;mark 3 1; mark 1 1;", 5, 28);
    refused("town 1 1;town 1 1;town 1 1;town 1 1;town 1 1;town 1 1;", 5, 45);
    taken("arm low 1 1;arm low 2 1;arm low 3 1;", 3);
    taken("mark 1 1;mark 2 1;mark 3 1;", 3);
    taken("town 1 1;town 1 1;town 1 1;town 1 1;town 1 1;", 5);
  }

  private static void faultsOfJoints() {
    refused("arm true 7 1;", 6, 13);
    refused("mark 7 1; ", 6, 10);
    refused("signal 7;", 6, 9);
    refused("bridge 7;", 6, 9);
    refused("bridge 3;joints 2;", 6, 18);
    refused("joints 2;signal 3;", 6, 18);
    refused("bridge 7;#", 1, 9);
    taken("bridge 7;joints 7;arm true 7 1;mark 7 1;signal 7;", 5);
  }

  // Behind promise 4: what no line tells is as at first, SEEN and IMAGES are gone, SHEETS stay.
  private static void whatATextReplaces() {
    MailCatch x = Check.told(SHORT_LINE);
    x.see(1, 1);
    x.keep(0);
    x.keep(1);
    x.sheet(0, 2, 5);
    x.sheet(1, 2, 1);
    x.lay(0, 0, 3);
    x.read(1, 1, 0, 1);
    Check.due("text", Check.tell(x, "pace 6;"), 1);
    int[] now = {6, 0, 0, 0, 0, 0, 1, 6, 2, 4, 1, 5, 3};
    for (int what = 0; what < now.length; what++) {
      Check.due("told anew: rule " + what, x.rule(what), now[what]);
    }
    int[] counted = {0, 0, 0, 5, 0, 0};
    for (int what = 0; what < counted.length; what++) {
      Check.due("told anew: count " + what, x.count(what), counted[what]);
    }
    Check.due("told anew: back 0", x.back(0), STATE);
    Check.due("told anew: back 1", x.back(1), STATE);
    Check.due("told anew: arm", x.arm(0, 0), BAD);
    Check.due("told anew: mark", x.mark(0, 0), BAD);
    Check.due("told anew: town", x.town(0, 0), BAD);
    Check.due("told anew: split", x.split(), 3);
    // A CELL that was laid is still there: there is no TOWN 3 to read it for.
    Check.due("told anew: read", x.read(0, 2, 0, 1), -20);
  }

  // Promises 6, 7, 8, 9
  private static void rulesAndRows() {
    MailCatch x = Check.told(SHORT_LINE);
    int[] rules = {3, 1, 1, 3, 4, 3, 2, 5, 1, 3, 2, 5, 4};
    for (int what = 0; what < rules.length; what++) {
      Check.due("rule " + what, x.rule(what), rules[what]);
    }
    Check.due("rule -1", x.rule(-1), BAD);
    Check.due("rule 13", x.rule(13), BAD);
    int[] arm = {0, 2, 4, 8, BAD};
    for (int what = 0; what < arm.length; what++) {
      Check.due("arm 0 " + what, x.arm(0, what), arm[what]);
    }
    Check.due("arm 0 -1", x.arm(0, -1), BAD);
    Check.due("arm 1 0", x.arm(1, 0), BAD);
    Check.due("arm -1 0", x.arm(-1, 0), BAD);
    Check.due("mark 0 0", x.mark(0, 0), 2);
    Check.due("mark 0 1", x.mark(0, 1), 5);
    Check.due("mark 0 2", x.mark(0, 2), BAD);
    Check.due("mark 0 -1", x.mark(0, -1), BAD);
    Check.due("mark 1 0", x.mark(1, 0), BAD);
    Check.due("mark -1 0", x.mark(-1, 0), BAD);
    Check.due("town 0 0", x.town(0, 0), 10);
    Check.due("town 0 1", x.town(0, 1), 2);
    Check.due("town 2 1", x.town(2, 1), 9);
    Check.due("town 3 0", x.town(3, 0), BAD);
    Check.due("town -1 0", x.town(-1, 0), BAD);
    Check.due("town 0 2", x.town(0, 2), BAD);
    Check.due("town 0 -1", x.town(0, -1), BAD);
    // By order, not by JOINT.
    Check.tell(x, "arm low 5 1;arm heavy 1 2;arm double 3 3;mark 6 1;mark 2 2;");
    Check.due("arm 0", x.arm(0, 1), 5);
    Check.due("arm 1", x.arm(1, 1), 1);
    Check.due("arm 2", x.arm(2, 0), 3);
    Check.due("mark 0", x.mark(0, 0), 6);
    Check.due("mark 1", x.mark(1, 1), 2);
  }

  // HOLDS, by PACE 1 .. 9
  private static void holds() {
    int[][] due = {
      {10, 9, 9, 8, 8, 7, 7, 6, 6},
      {10, 9, 9, 8, 5, 4, 4, 3, 3},
      {10, 9, 8, 7, 7, 5, 5, 4, 3},
      {9, 8, 7, 6, 6, 4, 4, 3, 2},
      {9, 8, 8, 7, 4, 3, 3, 2, 2},
    };
    MailCatch x = Check.told("arm true 1 1;");
    for (int kind = 0; kind < 5; kind++) {
      x.hang(0, kind);
      for (int pace = 1; pace <= 9; pace++) {
        x.set(2, pace);
        Check.due("HOLDS of kind " + kind + " by pace " + pace, x.arm(0, 3), due[kind][pace - 1]);
      }
    }
    String[] kinds = {"true", "light", "heavy", "double", "low"};
    for (int kind = 0; kind < 5; kind++) {
      Check.tell(x, "arm " + kinds[kind] + " 1 1;");
      Check.due(kinds[kind], x.arm(0, 0), kind);
    }
  }

  // Promises 10 to 15
  private static void changes() {
    MailCatch x = Check.told(SHORT_LINE);
    change("set 0 -1", x.set(0, -1), BAD, x.rule(6), 2);
    change("set 0 11", x.set(0, 11), BAD, x.rule(6), 2);
    change("set 0 10", x.set(0, 10), 2, x.rule(6), 10);
    change("set 0 0", x.set(0, 0), 10, x.rule(6), 0);
    change("set 1 0", x.set(1, 0), BAD, x.rule(12), 4);
    change("set 1 10", x.set(1, 10), BAD, x.rule(12), 4);
    change("set 1 9", x.set(1, 9), 4, x.rule(12), 9);
    change("set 1 1", x.set(1, 1), 9, x.rule(12), 1);
    change("set 2 0", x.set(2, 0), BAD, x.rule(7), 5);
    change("set 2 10", x.set(2, 10), BAD, x.rule(7), 5);
    change("set 2 9", x.set(2, 9), 5, x.rule(7), 9);
    change("set 2 1", x.set(2, 1), 9, x.rule(7), 1);
    Check.due("set 3 1", x.set(3, 1), BAD);
    Check.due("set -1 1", x.set(-1, 1), BAD);

    change("net 0 1", x.net(0, 1), BAD, x.rule(9), 3);
    change("net 3 3", x.net(3, 3), BAD, x.rule(9), 3);
    change("net 4 3", x.net(4, 3), BAD, x.rule(8), 1);
    change("net 11 12", x.net(11, 12), BAD, x.rule(8), 1);
    change("net 10 12", x.net(10, 12), BAD, x.rule(8), 1);
    change("net 10 11", x.net(10, 11), 1, x.rule(8), 10);
    change("net 1 2", x.net(1, 2), 10, x.rule(9), 2);

    change("signal 0", x.signal(0, true), BAD, x.rule(4), 4);
    change("signal 4", x.signal(4, true), BAD, x.rule(4), 4);
    change("signal 1", x.signal(1, true), 0, x.rule(4), 5);
    change("signal 1 again", x.signal(1, true), 1, x.rule(4), 5);
    change("no signal 3", x.signal(3, false), 1, x.rule(4), 1);
    change("no signal 3 again", x.signal(3, false), 0, x.rule(4), 1);

    change("bridge -1", x.bridge(-1), BAD, x.rule(5), 3);
    change("bridge 4", x.bridge(4), BAD, x.rule(5), 3);
    change("bridge 0", x.bridge(0), 3, x.rule(5), 0);
    change("bridge 1", x.bridge(1), 0, x.rule(5), 1);

    change("clear 0 -1", x.clear(0, -1), BAD, x.mark(0, 1), 5);
    change("clear 0 11", x.clear(0, 11), BAD, x.mark(0, 1), 5);
    change("clear 1 1", x.clear(1, 1), BAD, x.mark(0, 1), 5);
    change("clear -1 1", x.clear(-1, 1), BAD, x.mark(0, 1), 5);
    change("clear 0 10", x.clear(0, 10), 5, x.mark(0, 1), 10);
    change("clear 0 0", x.clear(0, 0), 10, x.mark(0, 1), 0);

    change("hang 0 -1", x.hang(0, -1), BAD, x.arm(0, 0), 0);
    change("hang 0 5", x.hang(0, 5), BAD, x.arm(0, 0), 0);
    change("hang 1 1", x.hang(1, 1), BAD, x.arm(0, 0), 0);
    change("hang -1 1", x.hang(-1, 1), BAD, x.arm(0, 0), 0);
    change("hang 0 4", x.hang(0, 4), 0, x.arm(0, 0), 4);
    change("hang 0 1", x.hang(0, 1), 4, x.arm(0, 0), 1);
  }

  private static void change(String call, long got, long want, long now, long due) {
    Check.due(call, got, want);
    Check.due(call + ", what is then", now, due);
  }

  // Promise 16
  private static void post() {
    MailCatch x = Check.told(SHORT_LINE);
    Check.due("post -1", x.post(-1, 1), BAD);
    Check.due("post 3", x.post(3, 1), BAD);
    Check.due("post 0 -1", x.post(0, -1), BAD);
    Check.due("post 0 100", x.post(0, 100), BAD);
    Check.due("post 0 90", x.post(0, 90), FULL);
    Check.due("town 0", x.town(0, 0), 10);
    Check.due("post 0 0", x.post(0, 0), 10);
    Check.due("post 0 89", x.post(0, 89), 99);
    Check.due("post 0 1", x.post(0, 1), FULL);
    Check.due("post 2 99", x.post(2, 99), 99);
    Check.due("town 0", x.town(0, 0), 99);
    Check.due("town 1", x.town(1, 0), 7);
  }

  // Promise 17
  private static void nights() {
    MailCatch x = Check.told(SHORT_LINE);
    night(x, 0, 0, 1, 3, 1, 0, 0, 3);
    // Behind 3 his COUNT is 2: the net is still out at the SIGNAL and the BRIDGE.
    night(x, 4, 0, 1, NONE, 1, 4, 1, 2);
    night(x, 7, 0, NONE, NONE, 0, 0, 0, 0);
    night(x, 7, 1, 2, NONE, 1, 4, 1, 2);
    night(x, 3, 0, 3, NONE, 0, 4, 1, 1);
    Check.due("night: what -1", x.night(0, 0, -1), BAD);
    Check.due("night: what 6", x.night(0, 0, 6), BAD);
    Check.due("night: misses 8", x.night(8, 0, 0), BAD);
    Check.due("night: misses -1", x.night(-1, 0, 0), BAD);
    Check.due("night: notices 2", x.night(0, 2, 0), BAD);
    Check.due("night: notices -1", x.night(0, -1, 0), BAD);
    // By a MARK COUNT comes to IN at once: out there nevertheless, in at the next.
    x.net(1, 2);
    night(x, 3, 1, 2, 3, 1, 0, 0, 3);
    night(x, 7, 1, 2, 3, 1, 0, 0, 2);
    // Torn at 1, gone for good: nothing is met at 2, nothing goes in.
    x.bridge(1);
    x.signal(1, true);
    night(x, 0, 0, 1, NONE, 0, 1, 1, 3);
    // In for good: COUNT is again what OUT is, yet nothing goes out.
    MailCatch y = Check.told("joints 10;arm true 10 1;arm low 4 1;signal 3;signal 5;net 2 4;mark 9 1;");
    night(y, 0, 0, 2, 4, 0, 4, 0, 10);
    night(y, 8, 0, 2, 5, 2, 4, 0, 9);
    night(y, 1 + 8, 1, 3, 6, 2, 4 + 16, 0, 10);
    night(y, 511, 1, 9, 10, 0, 0, 0, 10);
    night(y, 1023, 1, 9, 10, 0, 0, 0, 9);
    night(y, 511, 0, NONE, NONE, 0, 0, 0, 1);
  }

  private static void night(MailCatch x, int misses, int notices, int... due) {
    for (int what = 0; what < 6; what++) {
      Check.due("night " + misses + " " + notices + " " + what, x.night(misses, notices, what), due[what]);
    }
  }

  // Promise 18
  private static void counts() {
    MailCatch x = Check.told("joints 5;mark 4 2;mark 2 9;");
    int[][] due = {{0, 0, 0, 1, 2, 3, 4, 5}, {1 + 2 + 8, 0, 0, 0, 0, 1, 1, 2}, {1 + 2 + 8, 1, 0, 0, 0, 1, 4, 5},
      {1 + 2 + 8, 2, 0, 0, 2, 3, 3, 4}, {31, 3, 0, 0, 2, 2, 4, 4}};
    for (int[] d : due) {
      for (int j = 0; j <= 5; j++) {
        Check.due("counts " + d[0] + " " + d[1] + " " + j, x.counts(d[0], d[1], j), d[2 + j]);
      }
    }
    Check.due("counts: joint -1", x.counts(0, 0, -1), BAD);
    Check.due("counts: joint 6", x.counts(0, 0, 6), BAD);
    Check.due("counts: misses 32", x.counts(32, 0, 1), BAD);
    Check.due("counts: misses -1", x.counts(-1, 0, 1), BAD);
    Check.due("counts: notices 4", x.counts(0, 4, 1), BAD);
    Check.due("counts: notices -1", x.counts(0, -1, 1), BAD);
  }

  private static void part(String call, long numerator, long denominator, long wantNumerator, long wantDenominator) {
    Check.due(call + " numerator", numerator, wantNumerator);
    Check.due(call + " denominator", denominator, wantDenominator);
  }

  // Promise 19
  private static void where() {
    MailCatch x = Check.told(SHORT_LINE);
    part("where 0 0", x.where(0, 0, 0), x.where(0, 0, 1), 1, 1);
    part("where 0 1", x.where(0, 1, 0), x.where(0, 1, 1), 0, 1);
    part("where 1 0", x.where(1, 0, 0), x.where(1, 0, 1), 1, 5);
    part("where 1 1", x.where(1, 1, 0), x.where(1, 1, 1), 4, 5);
    part("where 2 0", x.where(2, 0, 0), x.where(2, 0, 1), 1, 50);
    part("where 2 1", x.where(2, 1, 0), x.where(2, 1, 1), 4, 25);
    part("where 2 2", x.where(2, 2, 0), x.where(2, 2, 1), 41, 50);
    part("where 3 3", x.where(3, 3, 0), x.where(3, 3, 1), 82, 125);
    part("where 3 10", x.where(3, 10, 0), x.where(3, 10, 1), 0, 1);
    Check.due("where: joint -1", x.where(-1, 0, 0), BAD);
    Check.due("where: joint 4", x.where(4, 0, 0), BAD);
    Check.due("where: count -1", x.where(1, -1, 0), BAD);
    Check.due("where: count 11", x.where(1, 11, 0), BAD);
    Check.due("where: what 2", x.where(1, 0, 2), BAD);
    Check.due("where: what -1", x.where(1, 0, -1), BAD);
    // What is SEEN changes no odds.
    x.see(1, 1);
    part("where 1 0, seen", x.where(1, 0, 0), x.where(1, 0, 1), 1, 5);
    MailCatch y = Check.told("joints 10;slip 3;");
    part("where 10 10", y.where(10, 10, 0), y.where(10, 10, 1), 282475249L, 10000000000L);
  }

  // Promises 20 to 24
  private static void netByOdds() {
    MailCatch x = Check.told(SHORT_LINE);
    part("goes 1", x.goes(1, 0), x.goes(1, 1), 4, 5);
    part("goes 2", x.goes(2, 0), x.goes(2, 1), 9, 50);
    part("goes 3", x.goes(3, 0), x.goes(3, 1), 2, 125);
    part("isOut 1", x.isOut(1, 0), x.isOut(1, 1), 4, 5);
    part("isOut 2", x.isOut(2, 0), x.isOut(2, 1), 49, 50);
    part("isOut 3", x.isOut(3, 0), x.isOut(3, 1), 17, 50);
    part("had 0", x.had(0, 0), x.had(0, 1), 98, 125);
    part("hits", x.hits(0), x.hits(1), 17, 50);
    part("torn", x.torn(0), x.torn(1), 17, 50);
    x.signal(1, true);
    part("hits of two", x.hits(0), x.hits(1), 57, 50);
    x.bridge(0);
    part("torn by no bridge", x.torn(0), x.torn(1), 0, 1);
    // Torn at 1, it is out at 2 only where it was not out at 1.
    x.bridge(1);
    part("torn at 1", x.torn(0), x.torn(1), 4, 5);
    part("isOut 1, torn there", x.isOut(1, 0), x.isOut(1, 1), 4, 5);
    part("isOut 2, torn at 1", x.isOut(2, 0), x.isOut(2, 1), 9, 50);
    for (int wrong : new int[] {-1, 0, 4}) {
      Check.due("goes: joint " + wrong, x.goes(wrong, 0), BAD);
      Check.due("isOut: joint " + wrong, x.isOut(wrong, 0), BAD);
    }
    for (int wrong : new int[] {-1, 2}) {
      Check.due("goes: what " + wrong, x.goes(1, wrong), BAD);
      Check.due("isOut: what " + wrong, x.isOut(1, wrong), BAD);
      Check.due("had: what " + wrong, x.had(0, wrong), BAD);
      Check.due("hits: what " + wrong, x.hits(wrong), BAD);
      Check.due("torn: what " + wrong, x.torn(wrong), BAD);
      Check.due("worth: what " + wrong, x.worth(wrong), BAD);
    }
    Check.due("had: arm 1", x.had(1, 0), BAD);
    Check.due("had: arm -1", x.had(-1, 0), BAD);
    MailCatch y = Check.told("slip 10;arm true 1 1;");
    part("goes by no count", y.goes(1, 0), y.goes(1, 1), 0, 1);
    part("had by no count", y.had(0, 0), y.had(0, 1), 0, 1);
  }

  // Promise 25
  private static void worthByOdds() {
    MailCatch x = Check.told(SHORT_LINE);
    part("worth", x.worth(0), x.worth(1), 189, 250);
    x.hang(0, 3);
    // 98/100 of 6 tenths of 4, less 7 times 34/100.
    part("worth of a double", x.worth(0), x.worth(1), -7, 250);
    x.bridge(0);
    part("worth, no bridge", x.worth(0), x.worth(1), 209, 125);
    MailCatch y = Check.told("joints 2;slip 0;net 1 3;signal 1;signal 2;bridge 2;cost 4 9;");
    part("worth below 0", y.worth(0), y.worth(1), -17, 1);
    MailCatch z = Check.told("joints 2;");
    part("worth of nothing", z.worth(0), z.worth(1), 0, 1);
  }

  // Promise 26
  private static void best() {
    MailCatch x = Check.told(SHORT_LINE);
    x.net(9, 11);
    Check.due("best", x.best(0), 103);
    part("best", x.best(1), x.best(2), 189, 250);
    Check.due("best leaves OUT", x.rule(8), 9);
    Check.due("best leaves IN", x.rule(9), 11);
    Check.due("best: what -1", x.best(-1), BAD);
    Check.due("best: what 3", x.best(3), BAD);
    // All of them cost but those by which the net stays in: the first of these.
    MailCatch y = Check.told("joints 4;slip 0;signal 1;signal 2;signal 3;signal 4;");
    Check.due("best, in all night", y.best(0), 506);
    part("best, in all night", y.best(1), y.best(2), 0, 1);
    MailCatch z = Check.told("joints 10;slip 0;bridge 1;signal 10;arm true 5 9;pace 1;");
    Check.due("best, behind the bridge", z.best(0), 206);
    part("best, behind the bridge", z.best(1), z.best(2), 9, 1);
    MailCatch v = Check.told("joints 10;slip 0;arm true 10 9;signal 9;");
    Check.due("best, out by the last COUNT", v.best(0), 1011);
    Check.tell(v, "joints 10;slip 0;arm true 10 9;arm true 9 9;signal 8;");
    Check.due("best, in by the last COUNT", v.best(0), 911);
    // Nothing but costs, and none that keeps the net in: the cheapest, at the last JOINT.
    MailCatch w = Check.told("joints 10;slip 0;cost 3 0;signal 1;signal 2;signal 3;signal 4;signal 5;"
        + "signal 6;signal 7;signal 8;signal 9;signal 10;");
    Check.due("best below 0", w.best(0), 102);
    part("best below 0", w.best(1), w.best(2), -3, 1);
  }

  // Promises 27, 28, 29
  private static void fogFastSlack() {
    MailCatch x = Check.told(SHORT_LINE);
    int[] fog = {0, 0, 0, 0, 0, 0, 0, 10, NONE, NONE};
    int[] fast = {9, 9, 9, 9, 9, 7, 5, 3, 1, NONE};
    int[] slack = {10, 10, 10, 10, 8, 7, 5, 0, NONE, NONE};
    for (int k = 1; k <= 10; k++) {
      Check.due("fog 0 " + k, x.fog(0, k), fog[k - 1]);
      Check.due("fast 0 " + k, x.fast(0, k), fast[k - 1]);
      Check.due("slack 0 " + k, x.slack(0, k), slack[k - 1]);
    }
    Check.due("fog leaves CLEAR", x.mark(0, 1), 5);
    Check.due("fast leaves PACE", x.rule(7), 5);
    Check.due("slack leaves SLIP", x.rule(6), 2);
    for (int[] wrong : new int[][] {{-1, 1}, {1, 1}, {0, 0}, {0, 11}, {0, -1}}) {
      Check.due("fog " + wrong[0] + " " + wrong[1], x.fog(wrong[0], wrong[1]), BAD);
      Check.due("fast " + wrong[0] + " " + wrong[1], x.fast(wrong[0], wrong[1]), BAD);
      Check.due("slack " + wrong[0] + " " + wrong[1], x.slack(wrong[0], wrong[1]), BAD);
    }
    // All MARKS alike: half of CLEAR on both comes to more than that on one.
    MailCatch y = Check.told("joints 3;arm true 3 1;mark 1 0;mark 2 0;slip 10;pace 1;net 1 4;");
    Check.due("fog by two marks", y.fog(0, 7), 5);
    Check.due("fog by two marks, all", y.fog(0, 10), 10);
    MailCatch z = Check.told("arm true 2 1;slip 0;pace 1;");
    Check.due("fog without marks", z.fog(0, 10), 0);
    Check.due("fast, sure", z.fast(0, 10), 1);
    Check.due("slack, sure", z.slack(0, 10), 0);
  }

  // Promises 30, 31, 32
  private static void letters() {
    MailCatch x = Check.told(SHORT_LINE);
    int[] sum = {0, 0, 21, 21, 21, 41};
    int[] set = {0, 0, 2, 2, 2, 3};
    for (int t = 0; t < sum.length; t++) {
      Check.due("sort " + t + " 0", x.sort(t, 0), sum[t]);
      Check.due("sort " + t + " 1", x.sort(t, 1), set[t]);
    }
    Check.due("sort 99 0", x.sort(99, 0), 41);
    Check.due("sort 100", x.sort(100, 0), BAD);
    Check.due("sort -1", x.sort(-1, 0), BAD);
    Check.due("sort: what 2", x.sort(1, 2), BAD);
    Check.due("sort: what -1", x.sort(1, -1), BAD);
    int[] minutes = {0, 3, 2, 5, 0, 3, 2, 5, BAD};
    for (int s = 0; s < minutes.length; s++) {
      Check.due("minutes " + s, x.minutes(s), minutes[s]);
    }
    Check.due("minutes -1", x.minutes(-1), BAD);
    int[][] hands = {{0, NONE}, {2, NONE}, {3, 7}, {4, 5}, {5, 4}, {6, 4}, {7, 3}, {9, 2}, {16, 2}, {17, 1}, {99, 1},
      {100, BAD}, {-1, BAD}};
    for (int[] h : hands) {
      Check.due("hands " + h[0], x.hands(h[0]), h[1]);
    }
    Check.due("hands leaves HANDS", x.rule(12), 4);
    // Of several sets that come to as much the least by bits.
    MailCatch y = Check.told("town 4 3;town 6 2;town 12 1;hands 3;");
    Check.due("sort of equals", y.sort(4, 0), 24);
    Check.due("sort of equals", y.sort(4, 1), 3);
    Check.due("sort of equals, one", y.sort(2, 1), 1);
    // The dearest LETTER first would leave what counts most.
    MailCatch z = Check.told("town 3 9;town 10 4;hands 1;");
    Check.due("sort, not by worth", z.sort(10, 0), 40);
    Check.due("sort, not by worth", z.sort(10, 1), 2);
    MailCatch none = new MailCatch();
    Check.due("hands for no town", none.hands(0), 1);
    Check.due("minutes of no town", none.minutes(0), 0);
    Check.due("minutes of no town", none.minutes(1), BAD);
  }

  // Promises 33, 34, 35, 36
  private static void seen() {
    MailCatch x = Check.told(SHORT_LINE);
    fits(x, 16, 0, 0, 0, 0);
    part("likely", x.likely(0), x.likely(1), 1, 1);
    Check.due("see 2 2", x.see(2, 2), 1);
    fits(x, 10, 0, 0, 0, 0);
    part("likely", x.likely(0), x.likely(1), 41, 50);
    Check.due("see 1 0", x.see(1, 0), 2);
    fits(x, 4, 1, 0, 1, 0);
    part("likely", x.likely(0), x.likely(1), 1, 10);
    Check.due("see 3 3", x.see(3, 3), 3);
    fits(x, 2, 1, 4, 1, 0);
    part("likely", x.likely(0), x.likely(1), 2, 25);
    Check.due("see 3 1", x.see(3, 1), 4);
    fits(x, 0, NONE, NONE, NONE, NONE);
    part("likely", x.likely(0), x.likely(1), 0, 1);
    Check.due("forget 5", x.forget(5), BAD);
    Check.due("forget -1", x.forget(-1), BAD);
    Check.due("forget 3", x.forget(3), 4);
    fits(x, 2, 1, 4, 1, 0);
    Check.due("forget 0", x.forget(0), 3);
    Check.due("see 2 1", x.see(2, 1), 1);
    fits(x, 4, 0, 0, 0, 1);
    Check.due("see 2 1 again", x.see(2, 1), 2);
    Check.due("see 1 10", x.see(1, 10), 3);
    Check.due("see 1 0", x.see(1, 0), 4);
    Check.due("see: joint 0", x.see(0, 0), BAD);
    Check.due("see: joint 4", x.see(4, 0), BAD);
    Check.due("see: count -1", x.see(1, -1), BAD);
    Check.due("see: count 11", x.see(1, 11), BAD);
    Check.due("see the 5th", x.see(1, 0), 5);
    Check.due("see the 6th", x.see(1, 0), 6);
    Check.due("see the 7th", x.see(1, 0), FULL);
    Check.due("see a wrong 7th", x.see(0, 0), BAD);
    Check.due("count 0", x.count(0), 6);
    Check.due("fits: what -1", x.fits(-1), BAD);
    Check.due("fits: what 5", x.fits(5), BAD);
    Check.due("likely: what -1", x.likely(-1), BAD);
    Check.due("likely: what 2", x.likely(2), BAD);
    // What FITS is counted, however unlikely.
    MailCatch y = Check.told("joints 2;slip 0;mark 2 0;");
    Check.due("see", y.see(2, 0), 1);
    fits(y, 1, 3, 0, 0, 1);
    part("likely", y.likely(0), y.likely(1), 0, 1);
  }

  private static void fits(MailCatch x, int... due) {
    for (int what = 0; what <= 4; what++) {
      Check.due("fits " + what, x.fits(what), due[what]);
    }
  }

  // Promise 37
  private static void drift() {
    MailCatch x = Check.told(SHORT_LINE);
    int[][] bits = DRIFTS;
    for (int[] b : bits) {
      for (int what = 0; what < 6; what++) {
        Check.due("drift " + b[0] + " " + what, x.drift(b[0], what), x.night(b[1], b[2], what));
      }
    }
    Check.due("drift: what -1", x.drift(0, -1), BAD);
    Check.due("drift: what 6", x.drift(0, 6), BAD);
    x.set(0, 10);
    x.clear(0, 0);
    Check.due("drift, all missed", x.drift(7, 5), 0);
    x.set(0, 0);
    Check.due("drift, none missed", x.drift(7, 5), 3);
    x.set(0, 10);
    x.clear(0, 10);
    Check.due("drift, noticed", x.drift(7, 5), 2);
    Check.due("drift leaves SEEN", x.count(0), 0);
  }

  /** A seed, what he MISSES and NOTICES by it with SLIP 2 and CLEAR 5. */
  private static final int[][] DRIFTS = {
    {0, 1, 0},
    {-1, 0, 0},
    {Integer.MAX_VALUE, 0, 0},
    {Integer.MIN_VALUE, 1, 0},
    {2, 0, 1},
    {4, 4, 1},
    {11, 5, 0},
    {13, 1, 1},
    {16, 2, 0},
    {18, 4, 0},
    {19, 2, 1},
    {25, 5, 1},
    {51, 6, 0},
    {102, 3, 0},
    {104, 3, 1},
    {133, 7, 0},
    {159, 6, 1},
    {161, 7, 1},
  };

  // Promises 38, 39
  private static void images() {
    MailCatch x = Check.told(SHORT_LINE);
    Check.due("keep -1", x.keep(-1), BAD);
    Check.due("keep 2", x.keep(2), BAD);
    Check.due("back -1", x.back(-1), BAD);
    Check.due("back 2", x.back(2), BAD);
    Check.due("back 0", x.back(0), STATE);
    Check.due("keep 0", x.keep(0), 0);
    Check.due("back 1", x.back(1), STATE);
    Check.due("count 1", x.count(1), 1);
    x.set(0, 9);
    x.set(1, 9);
    x.set(2, 9);
    x.net(4, 7);
    x.signal(1, true);
    x.bridge(0);
    x.clear(0, 1);
    x.hang(0, 2);
    x.post(2, 9);
    x.see(1, 1);
    Check.due("keep 1", x.keep(1), 0);
    Check.due("count 1", x.count(1), 2);
    Check.due("back 0", x.back(0), 3);
    int[] rules = {3, 1, 1, 3, 4, 3, 2, 5, 1, 3, 2, 5, 4};
    for (int what = 0; what < rules.length; what++) {
      Check.due("back 0: rule " + what, x.rule(what), rules[what]);
    }
    Check.due("back 0: arm", x.arm(0, 0), 0);
    Check.due("back 0: mark", x.mark(0, 1), 5);
    Check.due("back 0: town", x.town(2, 0), 0);
    Check.due("back 0 leaves SEEN", x.count(0), 1);
    Check.due("back 0 leaves IMAGES", x.count(1), 2);
    // What changes now changes no IMAGE.
    x.hang(0, 4);
    Check.due("back 1", x.back(1), 3);
    Check.due("back 1: SLIP", x.rule(6), 9);
    Check.due("back 1: arm", x.arm(0, 0), 2);
    Check.due("back 1: mark", x.mark(0, 1), 1);
    Check.due("back 1: town", x.town(2, 0), 9);
    x.post(2, 1);
    Check.due("keep 1 again", x.keep(1), 1);
    x.back(0);
    Check.due("back 0 again", x.arm(0, 0), 0);
    x.back(1);
    Check.due("kept anew", x.town(2, 0), 10);
  }

  // Promises 40, 41
  private static void sheets() {
    MailCatch x = Check.told("town 0 1;town 0 1;");
    Check.due("sheet -1", x.sheet(-1, 0, 1), BAD);
    Check.due("sheet 4", x.sheet(4, 0, 1), BAD);
    Check.due("sheet: lane -1", x.sheet(0, -1, 1), BAD);
    Check.due("sheet: lane 3", x.sheet(0, 3, 1), BAD);
    Check.due("sheet of 41", x.sheet(0, 0, 41), BAD);
    Check.due("sheet of -1", x.sheet(0, 0, -1), -14);
    Check.due("sheet 4 of -1", x.sheet(4, 0, -1), BAD);
    Check.due("sheet: lane 3 of -1", x.sheet(0, 3, -1), BAD);
    Check.due("no sheet", x.count(3), NONE);
    Check.due("sheet of 40", x.sheet(0, 2, 40), 1);
    Check.due("count 3", x.count(3), 40);
    Check.due("lay the last", x.lay(0, 39, 1), 1);
    Check.due("lay behind it", x.lay(0, 40, 1), -12);
    Check.due("sheet of -1 again", x.sheet(0, 2, -1), -14);
    Check.due("sheet of 41 again", x.sheet(0, 2, 41), BAD);
    Check.due("count 3", x.count(3), 40);
    Check.due("sheet of 0", x.sheet(0, 0, 0), 1);
    Check.due("count 3", x.count(3), 0);
    Check.due("lay into none", x.lay(0, 0, 1), -12);
    Check.due("lay -1", x.lay(-1, 0, 0), BAD);
    Check.due("lay 4", x.lay(4, 0, 0), BAD);
    Check.due("lay nothing", x.lay(3, -1, 0), -11);
    Check.due("sheet 1", x.sheet(1, 0, 2), 1);
    Check.due("lay ahead of it", x.lay(1, -1, 0), -12);
    // A new row has CELLS 0.
    x.lay(1, 0, 1);
    x.lay(1, 1, 5);
    Check.due("sheet 1 anew", x.sheet(1, 0, 2), 1);
    Check.due("read", x.read(1, 0, 0, 1), 1);
    Check.due("split", x.split(), 0);
    Check.due("town 1", x.town(1, 0), 0);
    lowestBits(x, 0, 256 + 7, 7);
    lowestBits(x, 0, -249, 7);
    lowestBits(x, 0, 200, -20);
    lowestBits(x, 1, 200, -20);
    lowestBits(x, 1, 65536 + 7, 7);
    lowestBits(x, 1, 65535, -20);
    lowestBits(x, 2, 65536 + 7, -20);
    lowestBits(x, 2, 99, 99);
    // A SHEET is its own.
    x.sheet(2, 2, 40);
    x.sheet(3, 2, 40);
    x.lay(2, 39, 9);
    x.lay(3, 1, 4);
    Check.due("read the end of 2", x.read(2, 2, 38, 1), 1);
    Check.due("read the start of 3", x.read(3, 2, 0, 1), 1);
    Check.due("town 0", x.town(0, 0), 13);
  }

  /** What a CELL of a lane has of a number: so many LETTERS come, or none. */
  private static void lowestBits(MailCatch x, int lane, int v, int due) {
    x.keep(0);
    x.sheet(3, lane, 2);
    x.lay(3, 1, v);
    long got = x.read(3, lane, 0, 1);
    Check.due("lane " + lane + ", " + v, got == 1 ? x.town(0, 0) : got, due);
    x.back(0);
  }

  private static MailCatch laid(int lane, int... cells) {
    MailCatch x = Check.told("town 10 1;town 95 2;");
    x.sheet(1, lane, cells.length);
    for (int i = 0; i < cells.length; i++) {
      x.lay(1, i, cells[i]);
    }
    return x;
  }

  private static void read(MailCatch x, int k, int lane, int f, int n, int answer, int split, int first, int second) {
    String call = "read " + k + " " + lane + " " + f + " " + n;
    Check.due(call, x.read(k, lane, f, n), answer);
    Check.due(call + ": split", x.split(), split);
    Check.due(call + ": town 0", x.town(0, 0), first);
    Check.due(call + ": town 1", x.town(1, 0), second);
  }

  // Promises 42, 43
  private static void reads() {
    for (int lane = 0; lane < 3; lane++) {
      MailCatch x = laid(lane, 0, 5, 1, 4, 0, 1);
      read(x, 1, lane, 0, 2, 2, 0, 15, 99);
      // The second is refused: the first did not come either, the FAULT stays.
      read(x, 1, lane, 4, 2, 1, 2, 16, 99);
      read(x, 1, lane, 0, 2, -21, 2, 16, 99);
      read(x, 1, lane, 2, 1, -20, 2, 16, 99);
      read(x, 1, (lane + 1) % 3, 0, 1, 0, 3, 16, 99);
      read(x, 1, (lane + 2) % 3, 0, 0, 0, 0, 16, 99);
      read(x, 2, lane, 0, 1, 0, 1, 16, 99);
      read(x, 2, lane, 0, 0, 0, 0, 16, 99);
      read(x, 1, lane, -1, 1, 0, 2, 16, 99);
      read(x, 1, lane, 5, 1, 0, 2, 16, 99);
      read(x, 1, lane, Integer.MAX_VALUE, 2, 0, 2, 16, 99);
      read(x, 1, lane, Integer.MIN_VALUE, 2, 0, 2, 16, 99);
      read(x, 1, lane, 100, 0, 0, 0, 16, 99);
      read(x, 1, lane, 0, 1, 1, 0, 21, 99);
    }
    MailCatch x = laid(1, 0, 5, 2, 1, 0, -1);
    x.read(3, 1, 0, 1);
    read(x, 1, 1, 0, 2, -21, 1, 10, 95);
    read(x, 1, 1, 4, 1, -20, 1, 10, 95);
    for (int[] wrong : new int[][] {{-1, 1, 0, 1}, {4, 1, 0, 1}, {1, -1, 0, 1}, {1, 3, 0, 1}, {1, 1, 0, -1}, {1, 1, 0, 21},
      {4, 1, 0, 0}, {2, 3, 0, 0}}) {
      read(x, wrong[0], wrong[1], wrong[2], wrong[3], BAD, 1, 10, 95);
    }
    // A TOWN fills while it is read, as by post() one behind another.
    MailCatch y = laid(2, 1, 2, 0, 1, 1, 2, 1, 1);
    read(y, 1, 2, 0, 3, 3, 0, 11, 99);
    y = laid(2, 1, 2, 0, 1, 1, 2, 1, 1);
    read(y, 1, 2, 0, 4, -23, 0, 10, 95);
    read(y, 1, 2, 0, 20, -23, 0, 10, 95);
    // A FAULT that is met ahead of what would be refused, and the other way round.
    y = laid(0, 0, 1, 0, 2, 0);
    read(y, 1, 0, 0, 20, 2, 2, 13, 95);
    read(y, 1, 0, 1, 2, -21, 2, 13, 95);
    // Twenty times two CELLS.
    int[] cells = new int[40];
    for (int i = 0; i < 40; i += 2) {
      cells[i + 1] = 4;
    }
    y = laid(0, cells);
    read(y, 1, 0, 0, 20, 20, 0, 90, 95);
  }

  // Promise 44
  private static void counted() {
    MailCatch x = Check.told(SHORT_LINE);
    Check.due("count 4", x.count(4), 17);
    Check.due("count 5", x.count(5), 1);
    x.signal(1, true);
    x.post(1, 3);
    x.sheet(0, 1, 7);
    x.sheet(1, 1, 9);
    x.feed(1);
    x.see(1, 1);
    x.keep(1);
    int[] due = {1, 1, 1, 7, 20, 2, BAD};
    for (int what = 0; what < due.length; what++) {
      Check.due("count " + what, x.count(what), due[what]);
    }
    Check.due("count -1", x.count(-1), BAD);
  }
}
