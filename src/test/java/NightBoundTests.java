/** Section 2 of the document: a NIGHT, THE NET out and in and TORN, BY ODDS, fractions, what to do, LETTERS, SEEN. */
public final class NightBoundTests {
  private static final int BAD = -1, FULL = -3, NONE = -4;
  private static final String ALL_SIGNALS = "signal 1;signal 2;signal 3;signal 4;signal 5;signal 6;signal 7;signal 8;"
      + "signal 9;signal 10;";

  public static void main(String[] args) {
    outAndInByCount();
    tornAtEachJoint();
    noneAndAll();
    marksAtTheEnds();
    whereItGoesOutAndIn();
    outOnlyOnce();
    fewJoints();
    countsAtTheEnds();
    bitsThatAreNot();
    surelyByOdds();
    askedFirst();
    oddsOfCounts();
    fractions();
    meansAtTheirMost();
    holdsAtTheirLeast();
    bestAtItsBounds();
    clearEnough();
    slowEnough();
    sureEnough();
    lettersNone();
    lettersAll();
    sortInTime();
    posts();
    seenNone();
    seenSix();
    seenAtTheEnds();
    fitsByAllAndNone();
    likelyAndFits();
    seedsByFigures();
    seedsTogether();
    Check.finish();
  }

  private static void fraction(String call, long numerator, long denominator, long n, long d) {
    Check.due(call + " numerator", numerator, n);
    Check.due(call + " denominator", denominator, d);
  }

  private static void night(String of, MailCatch x, int misses, int notices, int... due) {
    for (int what = 0; what < due.length; what++) {
      Check.due(of + ": night " + misses + " " + notices + " " + what, x.night(misses, notices, what), due[what]);
    }
  }

  /** The JOINTS of a .. b - 1 as bits. */
  private static int joints(int a, int b) {
    int bits = 0;
    for (int j = a; j < b; j++) {
      bits |= 1 << (j - 1);
    }
    return bits;
  }

  // ---- a NIGHT

  /** He misses none: COUNT is the JOINT. */
  private static void outAndInByCount() {
    MailCatch x = Check.told("joints 10;slip 0;" + ALL_SIGNALS);
    for (int out = 1; out <= 10; out++) {
      MailCatch y = Check.told("joints 10;slip 0;arm true 1 1;arm true 6 1;arm true 10 1;");
      for (int in = out + 1; in <= 11; in++) {
        String net = "net " + out + " " + in;
        x.net(out, in);
        y.net(out, in);
        int wentIn = in <= 10 ? in : NONE;
        night(net, x, 0, 0, out, wentIn, 0, joints(out, in), 0, 10);
        int met = (out == 1 ? 1 : 0) + (out <= 6 && 6 < in ? 2 : 0) + (in == 11 ? 4 : 0);
        night(net, y, 0, 0, out, wentIn, met, 0, 0, 10);
      }
    }
    MailCatch y = Check.told("joints 10;" + ALL_SIGNALS);
    y.net(10, 11);
    // One that he misses is one too few.
    night("net 10 11", y, 0, 0, 10, NONE, 0, 512, 0, 10);
    night("net 10 11", y, 512, 0, NONE, NONE, 0, 0, 0, 9);
    night("net 10 11", y, 1, 0, NONE, NONE, 0, 0, 0, 9);
  }

  private static void tornAtEachJoint() {
    MailCatch x = Check.told("joints 10;slip 0;arm true 4 1;net 3 7;" + ALL_SIGNALS);
    for (int b = 0; b <= 10; b++) {
      x.bridge(b);
      boolean torn = b >= 3 && b < 7;
      // At the BRIDGE itself all is met and hit; behind it nothing, and it does not go in.
      night("bridge " + b, x, 0, 0, 3, torn ? NONE : 7, b == 3 ? 0 : 1, joints(3, torn ? b + 1 : 7), torn ? 1 : 0, 10);
      fraction("torn, bridge " + b, x.torn(0), x.torn(1), torn ? 1 : 0, 1);
      fraction("hits, bridge " + b, x.hits(0), x.hits(1), torn ? b - 2 : 4, 1);
      fraction("isOut 6, bridge " + b, x.isOut(6, 0), x.isOut(6, 1), torn && b < 6 ? 0 : 1, 1);
      fraction("had, bridge " + b, x.had(0, 0), x.had(0, 1), b == 3 ? 0 : 4, b == 3 ? 1 : 5);
    }
    // Torn for good: COUNT is OUT or more at each JOINT behind it.
    MailCatch y = Check.told("joints 10;bridge 1;net 1 11;" + ALL_SIGNALS);
    night("torn at once", y, 0, 0, 1, NONE, 0, 1, 1, 10);
    night("torn at the second", y, 1, 0, 2, NONE, 0, joints(2, 11), 0, 9);
    y.bridge(10);
    night("torn at the last", y, 0, 0, 1, NONE, 0, 1023, 1, 10);
    y.net(9, 10);
    night("in at the bridge", y, 0, 0, 9, 10, 0, 256, 0, 10);
    y.net(10, 11);
    night("out at the bridge", y, 0, 0, 10, NONE, 0, 512, 1, 10);
  }

  private static void noneAndAll() {
    MailCatch bare = Check.told("joints 2;net 1 2;");
    night("bare", bare, 0, 0, 1, 2, 0, 0, 0, 2);
    night("bare", bare, 1, 0, 2, NONE, 0, 0, 0, 1);
    night("bare", bare, 2, 0, 1, NONE, 0, 0, 0, 1);
    night("bare", bare, 3, 0, NONE, NONE, 0, 0, 0, 0);
    MailCatch x = Check.told("joints 10;arm low 1 1;arm low 2 1;arm low 10 1;mark 1 1;mark 5 1;mark 10 1;bridge 9;");
    x.net(1, 11);
    for (int j = 1; j <= 10; j++) {
      x.signal(j, true);
    }
    night("all missed", x, 1023, 0, NONE, NONE, 0, 0, 0, 0);
    night("all missed, noticed", x, 1023, 7, 1, NONE, 3, 511, 1, 10);
    night("none missed", x, 0, 0, 1, NONE, 3, 511, 1, 10);
    night("none missed, noticed", x, 0, 7, 1, NONE, 3, 511, 1, 10);
    x.bridge(0);
    night("all missed, noticed", x, 1023, 7, 1, NONE, 7, 1023, 0, 10);
    night("the first noticed", x, 1023, 1, 1, NONE, 7, 1023, 0, 1);
    night("the second noticed", x, 1023, 2, 5, NONE, 4, joints(5, 11), 0, 5);
    night("the last noticed", x, 1023, 4, 10, NONE, 4, 512, 0, 10);
    night("the last heard", x, 511, 0, 10, NONE, 4, 512, 0, 1);
  }

  private static void marksAtTheEnds() {
    MailCatch x = Check.told("joints 10;mark 10 1;mark 1 1;net 1 11;");
    // A MARK is by its order, not by its JOINT.
    night("the first MARK", x, 1023, 1, 10, NONE, 0, 0, 0, 10);
    night("the second MARK", x, 1023, 2, 1, NONE, 0, 0, 0, 1);
    night("both", x, 1023, 3, 1, NONE, 0, 0, 0, 10);
    // Whether he misses the JOINT of a MARK that he notices is all one.
    Check.due("heard and noticed", x.counts(0, 2, 1), 1);
    Check.due("missed and noticed", x.counts(1, 2, 1), 1);
    Check.due("missed, then noticed", x.counts(511, 1, 10), 10);
    Check.due("missed, then heard", x.counts(511, 0, 10), 1);
  }

  private static void whereItGoesOutAndIn() {
    // By a MARK COUNT is IN at once: it goes out there, meets what is there, goes in at the next.
    MailCatch x = Check.told("joints 6;arm true 4 1;arm true 5 2;signal 4;signal 5;bridge 5;mark 4 5;net 1 2;");
    night("out by a MARK", x, 7, 1, 4, 5, 1, 8, 0, 6);
    night("out by a MARK, next missed", x, 7 + 16, 1, 4, 5, 1, 8, 0, 5);
    x.bridge(4);
    night("torn where it goes out", x, 7, 1, 4, NONE, 1, 8, 1, 6);
    x.bridge(6);
    night("in ahead of the bridge", x, 7, 1, 4, 5, 1, 8, 0, 6);
    // From below OUT to IN or above.
    x.net(2, 3);
    night("above IN at once", x, 6, 1, 4, 5, 1, 8, 0, 6);
    // At the last JOINT it goes out and not in.
    MailCatch y = Check.told("joints 6;arm low 6 1;signal 6;bridge 6;mark 6 1;net 1 2;");
    night("out at the last", y, 63, 1, 6, NONE, 1, 32, 1, 6);
    night("out at the last", y, 31, 0, 6, NONE, 1, 32, 1, 1);
    night("in at the last", y, 15, 0, 5, 6, 0, 0, 0, 2);
  }

  private static void outOnlyOnce() {
    // In for good, although COUNT is below IN for long, and above OUT.
    MailCatch x = Check.told("joints 10;net 1 3;" + ALL_SIGNALS);
    night("in for good", x, 0, 0, 1, 3, 0, 3, 0, 10);
    night("in for good", x, joints(4, 11), 0, 1, 3, 0, 3, 0, 3);
    night("in late", x, joints(3, 10), 0, 1, 10, 0, 511, 0, 3);
    night("in by none", x, joints(3, 11), 0, 1, NONE, 0, 1023, 0, 2);
  }

  private static void fewJoints() {
    // OUT and IN may be greater than there are JOINTS.
    MailCatch x = Check.told("joints 2;signal 1;signal 2;bridge 2;arm true 2 9;slip 0;");
    night("out at the second", x, 0, 0, 2, NONE, 1, 2, 1, 2);
    x.net(3, 4);
    night("never out", x, 0, 0, NONE, NONE, 0, 0, 0, 2);
    fraction("never had", x.had(0, 0), x.had(0, 1), 0, 1);
    fraction("never torn", x.torn(0), x.torn(1), 0, 1);
    x.net(10, 11);
    night("never out by far", x, 0, 0, NONE, NONE, 0, 0, 0, 2);
    for (int j = 1; j <= 2; j++) {
      fraction("never goes", x.goes(j, 0), x.goes(j, 1), 0, 1);
      fraction("never out", x.isOut(j, 0), x.isOut(j, 1), 0, 1);
    }
  }

  private static void countsAtTheEnds() {
    MailCatch x = Check.told("joints 10;mark 9 1;mark 3 1;");
    for (int j = 0; j <= 10; j++) {
      Check.due("none missed behind " + j, x.counts(0, 0, j), j);
      Check.due("all missed behind " + j, x.counts(1023, 0, j), 0);
      Check.due("all missed, noticed behind " + j, x.counts(1023, 3, j), j < 3 ? 0 : j < 9 ? 3 : 9);
      Check.due("only the last heard behind " + j, x.counts(511, 0, j), j < 10 ? 0 : 1);
      Check.due("only the first heard behind " + j, x.counts(1022, 0, j), j < 1 ? 0 : 1);
    }
    Check.due("behind 11", x.counts(0, 0, 11), BAD);
    Check.due("behind -1", x.counts(0, 0, -1), BAD);
  }

  /** Each bit of a JOINT or a MARK that there is not. */
  private static void bitsThatAreNot() {
    for (int joints = 2; joints <= 10; joints++) {
      MailCatch x = Check.told("joints " + joints + ";");
      Check.due("all JOINTS of " + joints, x.night((1 << joints) - 1, 0, 5), 0);
      Check.due("no MARK of " + joints, x.counts(0, 0, joints), joints);
      for (int bit = joints; bit < 32; bit++) {
        Check.due("JOINT " + (bit + 1) + " of " + joints, x.night(1 << bit, 0, 5), BAD);
        Check.due("JOINT " + (bit + 1) + " and the first of " + joints, x.counts(1 << bit | 1, 0, 0), BAD);
      }
    }
    for (int marks = 0; marks <= 3; marks++) {
      MailCatch x = Check.told("mark 1 1;mark 2 1;mark 6 1;".substring(0, 9 * marks));
      Check.due("all of " + marks + " MARKS", x.night(63, (1 << marks) - 1, 5), new int[] {0, 1, 2, 6}[marks]);
      for (int bit = marks; bit < 32; bit++) {
        Check.due("MARK " + bit + " of " + marks, x.night(0, 1 << bit, 5), BAD);
        Check.due("MARK " + bit + " of " + marks, x.counts(0, 1 << bit, 0), BAD);
      }
    }
    for (int towns = 0; towns <= 5; towns++) {
      MailCatch x = Check.told("town 3 1;".repeat(towns));
      Check.due("all of " + towns + " TOWNS", x.minutes((1 << towns) - 1), towns);
      for (int bit = towns; bit < 32; bit++) {
        Check.due("TOWN " + bit + " of " + towns, x.minutes(1 << bit), BAD);
      }
    }
  }

  // ---- BY ODDS

  /** SLIP and CLEAR of 0 and of 10: what is sure is 1 by 1, what can not be is 0 by 1. */
  private static void surelyByOdds() {
    MailCatch x = Check.told("joints 4;mark 2 0;mark 4 10;slip 0;net 1 2;arm true 1 1;pace 1;signal 1;bridge 1;");
    for (int j = 0; j <= 4; j++) {
      for (int c = 0; c <= 10; c++) {
        fraction("sure: where " + j + " " + c, x.where(j, c, 0), x.where(j, c, 1), c == j ? 1 : 0, 1);
      }
    }
    fraction("sure: goes 1", x.goes(1, 0), x.goes(1, 1), 1, 1);
    fraction("sure: isOut 1", x.isOut(1, 0), x.isOut(1, 1), 1, 1);
    fraction("sure: had", x.had(0, 0), x.had(0, 1), 1, 1);
    fraction("sure: hits", x.hits(0), x.hits(1), 1, 1);
    fraction("sure: torn", x.torn(0), x.torn(1), 1, 1);
    fraction("sure: likely", x.likely(0), x.likely(1), 1, 1);
    fraction("sure: worth", x.worth(0), x.worth(1), -5, 1);
    x.set(0, 10);
    for (int j = 0; j <= 4; j++) {
      for (int c = 0; c <= 10; c++) {
        int due = c == (j == 4 ? 4 : 0) ? 1 : 0;
        fraction("all missed: where " + j + " " + c, x.where(j, c, 0), x.where(j, c, 1), due, 1);
      }
    }
    fraction("all missed: goes 4", x.goes(4, 0), x.goes(4, 1), 1, 1);
    fraction("all missed: goes 1", x.goes(1, 0), x.goes(1, 1), 0, 1);
    fraction("all missed: isOut 1", x.isOut(1, 0), x.isOut(1, 1), 0, 1);
    fraction("all missed: had", x.had(0, 0), x.had(0, 1), 0, 1);
    fraction("all missed: hits", x.hits(0), x.hits(1), 0, 1);
    fraction("all missed: torn", x.torn(0), x.torn(1), 0, 1);
    fraction("all missed: worth", x.worth(0), x.worth(1), 0, 1);
    x.see(1, 1);
    fraction("all missed: likely", x.likely(0), x.likely(1), 0, 1);
    // 0 and less than that: what is worth nothing by costs as by none.
    MailCatch y = Check.told("slip 0;cost 0 0;net 1 2;signal 1;bridge 1;");
    fraction("at no cost", y.worth(0), y.worth(1), 0, 1);
  }

  /** Each is asked of an object that was asked nothing before, and again when SLIP and PACE are others. */
  private static void askedFirst() {
    first("where 2 1 numerator", x -> x.where(2, 1, 0), 8, 9);
    first("where 2 1 denominator", x -> x.where(2, 1, 1), 25, 50);
    first("goes 2 numerator", x -> x.goes(2, 0), 4, 9);
    first("goes 2 denominator", x -> x.goes(2, 1), 25, 100);
    first("isOut 2 numerator", x -> x.isOut(2, 0), 8, 9);
    first("isOut 2 denominator", x -> x.isOut(2, 1), 25, 50);
    first("had numerator", x -> x.had(0, 0), 32, 9);
    first("had denominator", x -> x.had(0, 1), 125, 50);
    first("hits numerator", x -> x.hits(0), 8, 9);
    first("hits denominator", x -> x.hits(1), 25, 50);
    first("torn numerator", x -> x.torn(0), 8, 9);
    first("torn denominator", x -> x.torn(1), 25, 50);
    first("worth numerator", x -> x.worth(0), -208, -9);
    first("worth denominator", x -> x.worth(1), 125, 10);
    first("likely numerator", x -> x.likely(0), 4, 9);
    first("likely denominator", x -> x.likely(1), 5, 10);
    first("best", x -> x.best(0), 304, 304);
    first("best numerator", x -> x.best(1), 0, 0);
    first("best denominator", x -> x.best(2), 1, 1);
    first("fog", x -> x.fog(0, 2), 0, NONE);
    first("fast", x -> x.fast(0, 2), 7, NONE);
    first("slack", x -> x.slack(0, 2), 8, 8);
    first("fits", x -> x.fits(0), 2, 2);
  }

  /** By SLIP 2 and HOLDS 8, then by SLIP 1 and HOLDS 10. */
  private static void first(String call, Twins.Act act, long due, long later) {
    MailCatch x = Check.told("joints 2;slip 2;arm true 2 1;signal 2;bridge 2;net 1 2;pace 5;");
    x.see(1, 1);
    Check.due(call + " asked first", act.on(x), due);
    x.set(0, 1);
    x.set(2, 1);
    Check.due(call + " asked behind a change", act.on(x), later);
  }

  private static void oddsOfCounts() {
    MailCatch x = Check.told("joints 10;slip 5;");
    long[] ways = {1, 10, 45, 120, 210, 252, 210, 120, 45, 10, 1};
    long[] by = {1024, 512, 1024, 128, 512, 256, 512, 128, 1024, 512, 1024};
    for (int c = 0; c <= 10; c++) {
      fraction("where 10 " + c, x.where(10, c, 0), x.where(10, c, 1), ways[c] * by[c] / 1024, by[c]);
    }
    for (int j = 0; j < 10; j++) {
      for (int c = j + 1; c <= 10; c++) {
        fraction("where " + j + " " + c, x.where(j, c, 0), x.where(j, c, 1), 0, 1);
      }
    }
    // The finest of all: ten JOINTS, three MARKS.
    MailCatch y = Check.told("joints 10;slip 3;mark 1 3;mark 2 3;mark 3 3;");
    fraction("none heard", y.where(10, 0, 0), y.where(10, 0, 1), 59049L * 343, 10000000000000L);
    MailCatch z = Check.told("joints 2;slip 1;");
    fraction("where 2 0", z.where(2, 0, 0), z.where(2, 0, 1), 1, 100);
    fraction("where 2 1", z.where(2, 1, 0), z.where(2, 1, 1), 9, 50);
    fraction("where 2 2", z.where(2, 2, 0), z.where(2, 2, 1), 81, 100);
  }

  /** In lowest terms, the denominator above 0, from 0 to 1, 0 as 0 by 1. */
  private static void fractions() {
    for (int slip = 0; slip <= 10; slip++) {
      MailCatch x = Check.told("joints 4;slip " + slip + ";mark 3 5;arm heavy 3 6;signal 2;signal 4;bridge 3;net 1 3;");
      for (int j = 1; j <= 4; j++) {
        for (int c = 0; c <= 4; c++) {
          lowest("where " + j + " " + c, x.where(j, c, 0), x.where(j, c, 1), 0, 1);
        }
        lowest("goes " + j, x.goes(j, 0), x.goes(j, 1), 0, 1);
        lowest("isOut " + j, x.isOut(j, 0), x.isOut(j, 1), 0, 1);
      }
      lowest("had", x.had(0, 0), x.had(0, 1), 0, 1);
      lowest("torn", x.torn(0), x.torn(1), 0, 1);
      lowest("hits", x.hits(0), x.hits(1), 0, 2);
      lowest("worth", x.worth(0), x.worth(1), -7, 6);
      lowest("best", x.best(1), x.best(2), -7, 6);
      x.see(2, 1);
      lowest("likely", x.likely(0), x.likely(1), 0, 1);
    }
  }

  private static void lowest(String call, long n, long d, int least, int most) {
    Check.holds(call + ": " + n + " by " + d + " has a denominator", d > 0);
    long a = Math.abs(n);
    long b = d;
    for (int i = 0; i < 100 && b > 0; i++) {
      long left = a % b;
      a = b;
      b = left;
    }
    Check.holds(call + ": " + n + " by " + d + " is in lowest terms", a == 1);
    Check.holds(call + ": " + n + " by " + d + " can be", n >= least * d && n <= most * d);
  }

  private static void meansAtTheirMost() {
    MailCatch x = Check.told("joints 10;slip 0;net 1 11;cost 9 9;bridge 10;pace 1;" + ALL_SIGNALS);
    fraction("ten hits", x.hits(0), x.hits(1), 10, 1);
    fraction("worth of ten hits, torn", x.worth(0), x.worth(1), -99, 1);
    MailCatch y = Check.told("joints 10;slip 0;net 1 11;pace 1;arm true 1 9;arm true 9 9;arm true 10 9;");
    fraction("worth of three bags", y.worth(0), y.worth(1), 27, 1);
    fraction("best of three bags", y.best(1), y.best(2), 27, 1);
    Check.due("best of three bags", y.best(0), 111);
    // The sign stands in the numerator.
    MailCatch z = Check.told("joints 2;slip 3;net 1 3;signal 1;cost 1 0;");
    fraction("less than nothing", z.worth(0), z.worth(1), -7, 10);
    // Bags are HAD by HOLDS and by SLIP: 5 tenths of 7 tenths, thrice 9.
    MailCatch v = Check.told("joints 2;slip 3;net 1 3;arm light 1 9;");
    fraction("had by both", v.had(0, 0), v.had(0, 1), 7, 20);
    fraction("worth by both", v.worth(0), v.worth(1), 63, 20);
  }

  /** HOLDS about the PACE of 5, and at its ends. */
  private static void holdsAtTheirLeast() {
    int[][] due = {{10, 8, 8, 6}, {10, 8, 5, 3}, {10, 7, 7, 3}, {9, 6, 6, 2}, {9, 7, 4, 2}};
    int[] paces = {1, 4, 5, 9};
    MailCatch x = Check.told("joints 2;slip 0;arm true 1 1;net 1 2;");
    for (int kind = 0; kind <= 4; kind++) {
      x.hang(0, kind);
      for (int i = 0; i < paces.length; i++) {
        x.set(2, paces[i]);
        String of = "kind " + kind + " by pace " + paces[i];
        Check.due(of, x.arm(0, 3), due[kind][i]);
        Check.due(of + " had", 10 * x.had(0, 0), due[kind][i] * x.had(0, 1));
        Check.due(of + " sure", x.slack(0, due[kind][i]), 0);
        if (due[kind][i] < 10) {
          Check.due(of + " too sure", x.slack(0, due[kind][i] + 1), NONE);
        }
      }
    }
  }

  // ---- what to do

  private static void bestAtItsBounds() {
    // Nothing at the line: all alike, the least number.
    MailCatch x = new MailCatch();
    Check.due("best of nothing", x.best(0), 102);
    fraction("best of nothing", x.best(1), x.best(2), 0, 1);
    for (int out = 1; out <= 10; out++) {
      // A bag at each JOINT in its turn, SIGNALS at all others.
      MailCatch y = Check.told("joints 10;slip 0;arm true " + out + " 9;pace 1;" + ALL_SIGNALS);
      y.signal(out, false);
      Check.due("best for a bag at " + out, y.best(0), 100 * out + out + 1);
      fraction("best for a bag at " + out, y.best(1), y.best(2), 9, 1);
      Check.due("best leaves OUT", y.rule(8), 2);
      Check.due("best leaves IN", y.rule(9), 4);
    }
    // Of several as good the least OUT, then the least IN.
    MailCatch z = Check.told("joints 10;slip 0;arm true 5 9;pace 1;");
    Check.due("best of several", z.best(0), 106);
    z = Check.told("joints 10;slip 0;arm true 5 9;pace 1;signal 3;");
    Check.due("best of several behind a signal", z.best(0), 406);
  }

  /** fog: CLEAR, all MARKS alike, of 0 to 10. */
  private static void clearEnough() {
    // All missed: HAD by CLEAR alone, of which 10 tenths hold.
    MailCatch x = Check.told("joints 2;slip 10;pace 1;arm true 1 1;mark 1 0;net 1 2;");
    for (int k = 1; k <= 10; k++) {
      Check.due("fog " + k, x.fog(0, k), k);
      Check.due("fast " + k, x.fast(0, k), NONE);
    }
    Check.due("CLEAR stays", x.mark(0, 1), 0);
    x.set(0, 0);
    for (int k = 1; k <= 10; k++) {
      Check.due("fog " + k + " of none missed", x.fog(0, k), 0);
    }
    // HOLDS of 8 tenths: k of 8 just so, k of 9 by none.
    x.set(0, 10);
    x.set(2, 4);
    Check.due("fog 8", x.fog(0, 8), 10);
    Check.due("fog 9", x.fog(0, 9), NONE);
    // A MARK that is too late, or none.
    MailCatch y = Check.told("joints 3;slip 10;pace 1;arm true 2 1;mark 3 10;net 1 2;");
    Check.due("fog, the mark behind the arm", y.fog(0, 1), NONE);
    Check.due("fog, no mark", Check.told("slip 10;arm true 2 1;").fog(0, 1), NONE);
    // By the MARK 99 of 100, without it fewer: more CLEAR than 10 there is not.
    MailCatch v = Check.told("joints 7;slip 1;pace 1;arm true 7 1;mark 5 1;net 6 11;");
    Check.due("fog, nearly sure", v.fog(0, 9), 4);
    Check.due("fog, never sure", v.fog(0, 10), NONE);
    // A MARK may well bring the net in too early: the least CLEAR, though not the greatest, does it.
    MailCatch z = Check.told("joints 3;slip 5;pace 1;arm true 3 1;mark 2 10;net 1 2;");
    Check.due("fog, better unseen", z.fog(0, 2), 0);
    Check.due("fog, better unseen by 4", z.fog(0, 4), NONE);
  }

  /** fast: PACE of 1 to 9. */
  private static void slowEnough() {
    MailCatch x = Check.told("joints 2;slip 0;arm true 1 1;net 1 2;");
    int[] fastTrue = {9, 9, 9, 9, 9, 9, 7, 5, 3, 1};
    int[] fastLight = {9, 9, 9, 7, 5, 4, 4, 4, 3, 1};
    int[] fastHeavy = {9, 9, 9, 8, 7, 5, 5, 3, 2, 1};
    int[] fastDouble = {9, 9, 8, 7, 5, 5, 3, 2, 1, NONE};
    int[] fastLow = {9, 9, 7, 5, 4, 4, 4, 3, 1, NONE};
    int[][] due = {fastTrue, fastLight, fastHeavy, fastDouble, fastLow};
    for (int kind = 0; kind <= 4; kind++) {
      x.hang(0, kind);
      for (int k = 1; k <= 10; k++) {
        Check.due("fast of kind " + kind + " by " + k, x.fast(0, k), due[kind][k - 1]);
      }
    }
    Check.due("PACE stays", x.rule(7), 5);
  }

  /** slack: SLIP of 0 to 10. */
  private static void sureEnough() {
    MailCatch x = Check.told("joints 2;slip 5;pace 1;arm true 1 1;net 1 2;");
    for (int k = 1; k <= 10; k++) {
      Check.due("slack " + k, x.slack(0, k), 10 - k);
    }
    Check.due("SLIP stays", x.rule(6), 5);
    // He may as well miss all where he sees the MARK.
    MailCatch y = Check.told("joints 2;pace 1;arm true 1 1;mark 1 10;net 1 2;");
    Check.due("slack by a mark", y.slack(0, 10), 10);
    Check.due("slack out of reach", Check.told("joints 2;arm true 1 1;net 3 4;").slack(0, 1), NONE);
    // One of two must be missed, one heard: of what does on both sides of the half the greatest.
    MailCatch z = Check.told("joints 2;pace 1;arm true 2 1;net 1 2;");
    int[] slack = {9, 8, 8, 7, 5, NONE};
    for (int k = 1; k <= slack.length; k++) {
      Check.due("slack, neither all nor none, by " + k, z.slack(0, k), slack[k - 1]);
    }
  }

  // ---- LETTERS

  private static void lettersNone() {
    MailCatch x = new MailCatch();
    for (int t : new int[] {0, 99}) {
      Check.due("no TOWN: sort " + t, x.sort(t, 0), 0);
      Check.due("no TOWN: sort " + t, x.sort(t, 1), 0);
      Check.due("no TOWN: hands " + t, x.hands(t), 1);
    }
    Check.due("no TOWN: minutes", x.minutes(0), 0);
    Check.due("no TOWN: LETTERS", x.count(4), 0);
    // No LETTERS take no time; of several sets the least.
    MailCatch y = Check.told("town 0 9;town 0 9;town 1 0;");
    Check.due("no LETTERS: sort", y.sort(0, 0), 0);
    Check.due("no LETTERS: sort", y.sort(99, 1), 0);
    Check.due("no LETTERS: minutes", y.minutes(3), 0);
    Check.due("no LETTERS: hands", y.hands(0), NONE);
    Check.due("one LETTER: minutes", y.minutes(7), 1);
    Check.due("one LETTER: hands", y.hands(1), 1);
  }

  private static void lettersAll() {
    MailCatch x = Check.told("town 99 9;".repeat(5) + "hands 9;");
    Check.due("all LETTERS", x.count(4), 495);
    Check.due("all: minutes", x.minutes(31), 55);
    Check.due("all: sort in time", x.sort(55, 0), 4455);
    Check.due("all: sort in time", x.sort(55, 1), 31);
    Check.due("all: sort, a minute less", x.sort(54, 0), 3564);
    Check.due("all: sort, a minute less", x.sort(54, 1), 15);
    Check.due("all: hands in time", x.hands(55), 9);
    Check.due("all: hands, a minute less", x.hands(54), NONE);
    Check.due("all: hands in 99", x.hands(99), 6);
    x.set(1, 1);
    Check.due("all by 1: minutes", x.minutes(31), 495);
    Check.due("all by 1: sort", x.sort(99, 0), 891);
    Check.due("all by 1: sort", x.sort(99, 1), 1);
    Check.due("all by 1: sort, a minute less", x.sort(98, 0), 0);
    Check.due("hands, whatever HANDS are", x.hands(55), 9);
    // LETTERS by HANDS, up: for each TOWN by itself.
    MailCatch y = Check.told("town 4 1;town 4 1;hands 3;");
    int[] minutes = {8, 4, 4, 2, 2, 2, 2, 2, 2};
    for (int hands = 1; hands <= 9; hands++) {
      y.set(1, hands);
      Check.due("minutes by " + hands, y.minutes(3), minutes[hands - 1]);
    }
  }

  private static void sortInTime() {
    MailCatch x = Check.told("town 30 1;town 20 2;town 10 4;town 5 8;town 6 6;hands 5;");
    // They take 6, 4, 2, 1, 2 minutes and count 30, 40, 40, 40, 36.
    int[] sum = {0, 40, 40, 80, 80, 116, 116, 120, 120, 156, 156};
    int[] set = {0, 8, 4, 12, 12, 28, 28, 14, 14, 30, 30};
    for (int t = 0; t < sum.length; t++) {
      Check.due("sort in " + t, x.sort(t, 0), sum[t]);
      Check.due("sort in " + t, x.sort(t, 1), set[t]);
    }
    Check.due("sort in 14", x.sort(14, 0), 156);
    Check.due("sort in 15", x.sort(15, 0), 186);
    Check.due("sort in 15", x.sort(15, 1), 31);
    Check.due("HANDS stay", x.rule(12), 5);
    Check.due("LETTERS stay", x.count(4), 71);
  }

  private static void posts() {
    MailCatch x = Check.told("town 0 0;town 99 0;town 98 0;");
    Check.due("post 0 99", x.post(0, 99), 99);
    Check.due("post 0 0", x.post(0, 0), 99);
    Check.due("post 0 1", x.post(0, 1), FULL);
    Check.due("post 1 1", x.post(1, 1), FULL);
    Check.due("post 1 0", x.post(1, 0), 99);
    Check.due("post 1 100", x.post(1, 100), BAD);
    Check.due("post 2 2", x.post(2, 2), FULL);
    Check.due("post 2 1", x.post(2, 1), 99);
    Check.due("post 3 100", x.post(3, 100), BAD);
    Check.due("all LETTERS", x.count(4), 297);
  }

  // ---- SEEN

  private static void fits(String of, MailCatch x, int... due) {
    for (int what = 0; what <= 4; what++) {
      Check.due(of + ": fits " + what, x.fits(what), due[what]);
    }
  }

  private static void seenNone() {
    for (int joints = 2; joints <= 10; joints++) {
      MailCatch x = Check.told("joints " + joints + ";");
      fits("nothing SEEN of " + joints, x, 1 << joints, 0, 0, 0, 0);
      fraction("nothing SEEN of " + joints, x.likely(0), x.likely(1), 1, 1);
      Check.due("forget none", x.forget(0), 0);
      Check.due("forget one", x.forget(1), BAD);
    }
    fits("nothing SEEN, MARKS", Check.told("joints 10;mark 1 0;mark 5 10;mark 10 1;"), 8192, 0, 0, 0, 0);
  }

  private static void seenSix() {
    MailCatch x = Check.told("joints 10;slip 1;");
    for (int i = 1; i <= 6; i++) {
      Check.due("see the " + i + "th", x.see(i, i), i);
    }
    Check.due("see the 7th", x.see(7, 7), FULL);
    Check.due("see the 7th, as one of them", x.see(1, 1), FULL);
    Check.due("see a wrong 7th", x.see(11, 7), BAD);
    Check.due("see a wrong 7th", x.see(7, 11), BAD);
    Check.due("SEEN", x.count(0), 6);
    fits("six SEEN", x, 16, 0, 63, 0, 0);
    fraction("six SEEN", x.likely(0), x.likely(1), 531441, 1000000);
    Check.due("forget 7", x.forget(7), BAD);
    Check.due("forget 6", x.forget(6), 6);
    Check.due("forget 5", x.forget(5), 6);
    fits("five SEEN", x, 32, 0, 31, 0, 0);
    Check.due("forget 6 of 5", x.forget(6), BAD);
    Check.due("see another 6th", x.see(10, 5), 6);
    fits("another 6th", x, 1, 992, 31, 0, 0);
    Check.due("forget all", x.forget(0), 6);
    fits("nothing SEEN", x, 1024, 0, 0, 0, 0);
    Check.due("see again", x.see(10, 10), 1);
    fits("the first again", x, 1, 0, 1023, 0, 0);
  }

  private static void seenAtTheEnds() {
    MailCatch x = Check.told("joints 10;mark 10 5;slip 5;");
    Check.due("see 10 10", x.see(10, 10), 1);
    // Noticed at the last, whatever was missed; or none missed.
    fits("10 at the last", x, 1025, 0, 0, 0, 0);
    Check.due("see 9 0", x.see(9, 0), 2);
    fits("10 at the last, 0 ahead", x, 2, 511, 0, 1, 0);
    Check.due("see 1 1", x.see(1, 1), 3);
    fits("what can not be", x, 0, NONE, NONE, NONE, NONE);
    fraction("what can not be", x.likely(0), x.likely(1), 0, 1);
    Check.due("fits -1, none of them", x.fits(-1), BAD);
    Check.due("fits 5, none of them", x.fits(5), BAD);
    x.forget(0);
    Check.due("see 1 10", x.see(1, 10), 1);
    fits("more than there are", x, 0, NONE, NONE, NONE, NONE);
    x.forget(0);
    x.see(3, 2);
    x.see(3, 1);
    fits("twice another", x, 0, NONE, NONE, NONE, NONE);
    x.forget(1);
    x.see(3, 2);
    fits("twice the same", x, 3 * 128 * 2, 0, 0, 0, 0);
    MailCatch y = Check.told("joints 2;");
    Check.due("see 0 0", y.see(0, 0), BAD);
    Check.due("see 3 0", y.see(3, 0), BAD);
    Check.due("see 2 10", y.see(2, 10), 1);
  }

  /** More JOINTS and MARKS than one, at both ends. */
  private static void fitsByAllAndNone() {
    MailCatch x = Check.told("joints 10;mark 10 5;mark 5 5;mark 2 5;");
    int[][] seen = {{1, 0}, {2, 2}, {4, 2}, {5, 5}, {9, 5}, {10, 10}};
    for (int[] s : seen) {
      x.see(s[0], s[1]);
    }
    // JOINTS 1, 3, 4, 6 to 9 are missed by all; 2, 5, 10 may be or not, as their MARKS are noticed by all.
    fits("missed and noticed by all", x, 8, 1 + 4 + 8 + 32 + 64 + 128 + 256, 0, 7, 0);
    int[][] others = {{1, 1}, {2, 1}, {5, 4}, {8, 7}, {9, 8}, {10, 9}};
    x.forget(0);
    for (int[] o : others) {
      x.see(o[0], o[1]);
    }
    fits("noticed by none", x, 1, 2, 1021, 0, 7);
    MailCatch y = Check.told("joints 4;mark 4 0;mark 3 0;mark 1 0;");
    y.see(4, 4);
    y.see(2, 0);
    // The last is noticed, or the one ahead of it and the last JOINT heard.
    fits("one of the first two", y, 10, 3, 0, 0, 4);
    y.see(3, 3);
    fits("the second, not the third", y, 6, 3, 0, 2, 4);
  }

  /** What can not be by odds FITS all the same. */
  private static void likelyAndFits() {
    MailCatch x = Check.told("joints 3;slip 0;mark 2 0;mark 3 10;");
    x.see(1, 0);
    fits("missed by slip 0", x, 16, 1, 0, 0, 0);
    fraction("missed by slip 0", x.likely(0), x.likely(1), 0, 1);
    x.set(0, 10);
    fraction("missed by slip 10", x.likely(0), x.likely(1), 1, 1);
    x.see(2, 2);
    fits("noticed by clear 0", x, 8, 1, 0, 1, 0);
    fraction("noticed by clear 0", x.likely(0), x.likely(1), 0, 1);
    x.clear(0, 7);
    fraction("noticed by clear 7", x.likely(0), x.likely(1), 7, 10);
    x.see(3, 2);
    fits("not noticed by clear 10", x, 2, 5, 0, 1, 2);
    fraction("not noticed by clear 10", x.likely(0), x.likely(1), 0, 1);
    // SEEN is of his COUNT alone: what THE NET does changes nothing.
    x.net(1, 2);
    x.bridge(1);
    fits("the same by another net", x, 2, 5, 0, 1, 2);
  }

  // ---- by a seed

  private static long figure(int seed, int times) {
    long s = seed;
    for (int i = 0; i < times; i++) {
      s = s * 1103515245L + 12345L & 0xFFFFFFFFL;
    }
    return (s >> 16 & 0x7FFF) % 10;
  }

  /** A figure of SLIP is heard, one below it is missed; of CLEAR likewise. */
  private static void seedsByFigures() {
    int[] seeds = {0, 1, -1, 2, 3, 5, 8, 77, 4096, -70000, 123456789, Integer.MIN_VALUE, Integer.MAX_VALUE};
    for (int seed : seeds) {
      MailCatch x = Check.told("joints 2;net 1 2;");
      long first = figure(seed, 1);
      long second = figure(seed, 2);
      for (int slip = 0; slip <= 10; slip++) {
        x.set(0, slip);
        int heard = (first < slip ? 0 : 1) + (second < slip ? 0 : 1);
        Check.due("drift " + seed + " by slip " + slip, x.drift(seed, 5), heard);
        Check.due("drift " + seed + " out by slip " + slip, x.drift(seed, 0), first >= slip ? 1 : heard == 1 ? 2 : NONE);
      }
      MailCatch y = Check.told("joints 2;slip 10;mark 2 0;mark 1 0;");
      for (int clear = 0; clear <= 10; clear++) {
        // By order of the MARKS, not of their JOINTS.
        y.clear(0, clear);
        y.clear(1, clear);
        int count = figure(seed, 3) < clear ? 2 : figure(seed, 4) < clear ? 1 : 0;
        Check.due("drift " + seed + " by clear " + clear, y.drift(seed, 5), count);
      }
    }
  }

  /** A NIGHT by a seed is by itself: asked again it is the same, whatever was asked between. */
  private static void seedsTogether() {
    for (int seed = -20; seed <= 20; seed++) {
      MailCatch x = Check.told("joints 10;slip 5;mark 3 5;mark 6 5;mark 9 5;signal 3;arm true 7 1;bridge 8;net 2 6;");
      int misses = 0;
      int notices = 0;
      for (int i = 0; i < 13; i++) {
        boolean is = figure(seed, i + 1) < 5;
        misses |= is && i < 10 ? 1 << i : 0;
        notices |= is && i >= 10 ? 1 << (i - 10) : 0;
      }
      for (int time = 0; time < 2; time++) {
        for (int what = 0; what <= 5; what++) {
          Check.due("drift " + seed + " " + what, x.drift(seed, what), x.night(misses, notices, what));
        }
        x.drift(seed + 1, 0);
      }
    }
  }
}
