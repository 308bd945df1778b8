/** SHEETS of the document: their lanes with a sign, 0 to 40 CELLS, FAULTS 1 to 4, what is read of them. */
public final class SheetBoundTests {
  private static final int BAD = -1, FULL = -3, NONE = -4;
  private static final int LEAST = Integer.MIN_VALUE, MOST = Integer.MAX_VALUE;

  public static void main(String[] args) {
    nothingAtFirst();
    sizes();
    madeAnew();
    allOfItAnew();
    fiveTowns();
    refusedAndThere();
    eachItsOwn();
    byteSigns();
    shortSigns();
    intSigns();
    lanesAreTaken();
    whereItBegins();
    howMany();
    twentyOfAll();
    refusedByPost();
    theFirstMet();
    splitStays();
    Check.finish();
  }

  private static MailCatch laid(int lane, int... cells) {
    MailCatch x = Check.told("town 10 1;town 95 2;");
    Check.due("a sheet of " + cells.length, x.sheet(1, lane, cells.length), 1);
    Scene.lay(x, 1, cells);
    return x;
  }

  private static void read(MailCatch x, int k, int lane, int f, int n, int answer, int split, int first, int second) {
    String call = "read " + k + " " + lane + " " + f + " " + n;
    Check.due(call, x.read(k, lane, f, n), answer);
    Check.due(call + ": split", x.split(), split);
    Check.due(call + ": town 0", x.town(0, 0), first);
    Check.due(call + ": town 1", x.town(1, 0), second);
    Check.due(call + ": all LETTERS", x.count(4), first + second);
  }

  private static void nothingAtFirst() {
    MailCatch x = Check.told("town 10 1;town 95 2;");
    Check.due("CELLS of nothing", x.count(3), NONE);
    for (int k = 0; k < 4; k++) {
      for (int i : new int[] {0, 1, 39, 40, -1, LEAST, MOST}) {
        Check.due("lay " + k + " " + i, x.lay(k, i, 1), -11);
      }
      for (int lane = 0; lane < 3; lane++) {
        read(x, k, lane, 0, 1, 0, 1, 10, 95);
        read(x, k, lane, 0, 0, 0, 0, 10, 95);
        // Nothing is found ahead of where it would be read.
        read(x, k, lane, -1, 20, 0, 1, 10, 95);
        read(x, k, lane, MOST, 20, 0, 1, 10, 95);
      }
    }
  }

  private static void sizes() {
    for (int n = 0; n <= 40; n++) {
      MailCatch x = new MailCatch();
      Check.due("sheet of " + n, x.sheet(0, n % 3, n), 1);
      Check.due("CELLS", x.count(3), n);
      Check.due("ahead of the first of " + n, x.lay(0, -1, 1), -12);
      Check.due("behind the last of " + n, x.lay(0, n, 1), -12);
      Check.due("40 of " + n, x.lay(0, 40, 1), -12);
      for (int i = 0; i < n; i++) {
        Check.due("CELL " + i + " of " + n, x.lay(0, i, 1), 1);
      }
      Check.due("41 behind it", x.sheet(0, n % 3, 41), BAD);
      Check.due("-1 behind it", x.sheet(0, n % 3, -1), -14);
      Check.due("CELLS stay", x.count(3), n);
    }
    for (int lane = 0; lane < 3; lane++) {
      for (int n : new int[] {41, 42, 127, 65536, MOST}) {
        Check.due("sheet of " + n, new MailCatch().sheet(3, lane, n), BAD);
      }
      for (int n : new int[] {-1, -2, -41, LEAST}) {
        Check.due("sheet of " + n, new MailCatch().sheet(3, lane, n), -14);
        Check.due("sheet 4 of " + n, new MailCatch().sheet(4, lane, n), BAD);
        Check.due("sheet -1 of " + n, new MailCatch().sheet(-1, lane, n), BAD);
        Check.due("lane 3 of " + n, new MailCatch().sheet(0, 3, n), BAD);
        Check.due("lane -1 of " + n, new MailCatch().sheet(0, -1, n), BAD);
      }
    }
  }

  /** A new row has CELLS 0, as many as are told, of the lane that is told. */
  private static void madeAnew() {
    MailCatch x = laid(0, 0, 9, 1, 1);
    x.sheet(1, 0, 4);
    read(x, 1, 0, 0, 2, 2, 0, 10, 95);
    Scene.lay(x, 1, 0, 1, 1, 1);
    x.sheet(1, 2, 2);
    read(x, 1, 0, 0, 1, 0, 3, 10, 95);
    read(x, 1, 2, 0, 2, 1, 2, 10, 95);
    x.sheet(1, 1, 4);
    read(x, 1, 1, 0, 2, 2, 0, 10, 95);
    x.sheet(1, 1, 0);
    read(x, 1, 1, 0, 1, 0, 2, 10, 95);
    Check.due("lay into none", x.lay(1, 0, 1), -12);
    x.sheet(1, 0, 40);
    read(x, 1, 0, 0, 20, 20, 0, 10, 95);
  }

  /** All CELLS of it are 0, whatever they were, and no CELL of another SHEET is. */
  private static void allOfItAnew() {
    for (int k = 0; k < 4; k++) {
      MailCatch x = Check.told("town 0 1;");
      for (int other = 0; other < 4; other++) {
        x.sheet(other, 0, 40);
        for (int i = 0; i < 40; i++) {
          x.lay(other, i, 9);
        }
      }
      x.sheet(k, 0, 40);
      Check.due("all of " + k + " anew", x.read(k, 0, 0, 20), 20);
      Check.due("no LETTER of " + k, x.count(4), 0);
      for (int other = 0; other < 4; other++) {
        for (int pair = 0; pair < 20; pair++) {
          // There is no TOWN 9; with 0 ahead of them 9 LETTERS would come.
          Check.due("pair " + pair + " of " + other, x.read(other, 0, 2 * pair, 1), other == k ? 1 : -20);
        }
      }
    }
  }

  private static void fiveTowns() {
    MailCatch x = Check.told("town 1 1;town 2 1;town 3 1;town 4 1;town 5 1;");
    x.sheet(2, 1, 10);
    Scene.lay(x, 2, 4, 50, 0, 10, 3, 40, 1, 20, 2, 30);
    int[] due = {1, 2, 3, 4, 5};
    Check.due("none of five", x.read(2, 1, 0, 0), 0);
    lettersOf(x, due);
    Check.due("all of five", x.read(2, 1, 0, 5), 5);
    due = new int[] {11, 22, 33, 44, 55};
    lettersOf(x, due);
    // The third can not come, and then none does.
    x.lay(2, 5, 60);
    Check.due("four of five", x.read(2, 1, 2, 4), -21);
    lettersOf(x, due);
    Check.due("and then a FAULT", x.read(2, 1, 6, 4), 2);
    lettersOf(x, new int[] {11, 42, 63, 44, 55});
  }

  private static void lettersOf(MailCatch x, int[] due) {
    for (int t = 0; t < due.length; t++) {
      Check.due("LETTERS of " + t, x.town(t, 0), due[t]);
    }
  }

  private static void refusedAndThere() {
    MailCatch x = laid(2, 0, 3);
    int[][] calls = {{1, 2, 41, BAD}, {1, 2, -1, -14}, {1, 3, 1, BAD}, {1, -1, 1, BAD}, {1, 0, LEAST, -14}, {1, 1, MOST, BAD}};
    for (int[] c : calls) {
      Check.due("sheet " + c[0] + " " + c[1] + " " + c[2], x.sheet(c[0], c[1], c[2]), c[3]);
    }
    read(x, 1, 2, 0, 1, 1, 0, 13, 95);
    Check.due("lay 1 2", x.lay(1, 2, 5), -12);
    Check.due("lay 1 -1", x.lay(1, -1, 5), -12);
    read(x, 1, 2, 0, 1, 1, 0, 16, 95);
    Check.due("no other came of it", x.lay(0, 0, 1), -11);
  }

  /** The last CELL of one is not the first of the next. */
  private static void eachItsOwn() {
    MailCatch x = Check.told("town 0 1;");
    for (int k = 0; k < 4; k++) {
      x.sheet(k, k % 3, 40);
      x.lay(k, 1, k + 1);
      x.lay(k, 39, 10 * (k + 1));
    }
    int letters = 0;
    for (int k = 0; k < 4; k++) {
      letters += 11 * (k + 1);
      Check.due("of SHEET " + k, x.read(k, k % 3, 0, 20), letters <= 99 ? 20 : -39);
      Check.due("LETTERS behind " + k, x.town(0, 0), letters <= 99 ? letters : 66);
    }
    x.sheet(1, 0, 40);
    Check.due("of SHEET 0 again", x.read(0, 0, 0, 20), 20);
    Check.due("LETTERS", x.town(0, 0), 77);
    Check.due("of SHEET 1 anew", x.read(1, 0, 0, 20), 20);
    Check.due("LETTERS", x.town(0, 0), 77);
  }

  // ---- lanes: the lowest bits, with a sign

  /** As TOWN and as LETTERS: so many come to TOWN 0, or the read is refused. */
  private static void letters(int lane, int v, int due) {
    MailCatch x = Check.told("town 0 1;");
    x.sheet(1, lane, 2);
    Check.due("lay " + v, x.lay(1, 1, v), 1);
    boolean comes = due >= 0 && due <= 99;
    Check.due("lane " + lane + ", LETTERS " + v, x.read(1, lane, 0, 1), comes ? 1 : -20);
    Check.due("lane " + lane + ", LETTERS " + v + " come", x.town(0, 0), comes ? due : 0);
    MailCatch y = Check.told("town 0 1;".repeat(5));
    y.sheet(1, lane, 2);
    y.lay(1, 0, v);
    y.lay(1, 1, 1);
    boolean isTown = due >= 0 && due < 5;
    Check.due("lane " + lane + ", TOWN " + v, y.read(1, lane, 0, 1), isTown ? 1 : -20);
    Check.due("lane " + lane + ", TOWN " + v + " has it", y.town(isTown ? due : 0, 0), isTown ? 1 : 0);
  }

  private static void byteSigns() {
    for (int v : new int[] {0, 1, 4, 5, 99, 100, 127, 128, 129, 255, 256, 257, 260, 355, 356, -1, -128, -129, -156, -252,
      -255, -256, 65536, 65540, 1 << 31, MOST, LEAST + 4, 0x7FFFFF04, -65533}) {
      letters(0, v, (byte) v);
    }
  }

  private static void shortSigns() {
    for (int v : new int[] {0, 1, 4, 5, 99, 100, 128, 256, 260, 32767, 32768, 65535, 65536, 65537, 65540, 65635, 65636, -1,
      -32768, -32769, -65437, -65532, -65535, -65536, 1 << 31, MOST, LEAST + 4, 0x7FFF0004, 0x10063}) {
      letters(1, v, (short) v);
    }
  }

  private static void intSigns() {
    for (int v : new int[] {0, 1, 4, 5, 99, 100, 256, 260, 65536, 65540, 65635, -1, -65535, LEAST, LEAST + 4, MOST}) {
      letters(2, v, v);
    }
  }

  private static void lanesAreTaken() {
    for (int lane = 0; lane < 3; lane++) {
      MailCatch x = laid(lane, 0, 1);
      for (int as = 0; as < 3; as++) {
        boolean is = as == lane;
        MailCatch y = laid(lane, 0, 1);
        read(y, 1, as, 0, 1, is ? 1 : 0, is ? 0 : 3, is ? 11 : 10, 95);
        // What it is taken as is found ahead of where it would be read.
        read(x, 1, as, -1, 1, 0, is ? 2 : 3, 10, 95);
        read(x, 1, as, MOST, 20, 0, is ? 2 : 3, 10, 95);
        read(x, 1, as, 0, 0, 0, 0, 10, 95);
      }
      // A SHEET of no CELL is a row of its lane all the same.
      x.sheet(2, lane, 0);
      for (int as = 0; as < 3; as++) {
        read(x, 2, as, 0, 1, 0, as == lane ? 2 : 3, 10, 95);
      }
    }
  }

  // ---- from where, how many

  private static void whereItBegins() {
    MailCatch x = laid(1, 0, 1, 0, 2, 0);
    read(x, 1, 1, 0, 1, 1, 0, 11, 95);
    read(x, 1, 1, 2, 1, 1, 0, 13, 95);
    // Two CELLS each: of the last pair one alone is there.
    read(x, 1, 1, 3, 1, -20, 0, 13, 95);
    read(x, 1, 1, 4, 1, 0, 2, 13, 95);
    read(x, 1, 1, 5, 1, 0, 2, 13, 95);
    read(x, 1, 1, 6, 1, 0, 2, 13, 95);
    read(x, 1, 1, -1, 1, 0, 2, 13, 95);
    read(x, 1, 1, -2, 2, 0, 2, 13, 95);
    read(x, 1, 1, LEAST, 20, 0, 2, 13, 95);
    read(x, 1, 1, MOST, 20, 0, 2, 13, 95);
    read(x, 1, 1, MOST - 1, 20, 0, 2, 13, 95);
    read(x, 1, 1, -40, 20, 0, 2, 13, 95);
    for (int f : new int[] {-1, 0, 4, 5, LEAST, MOST}) {
      read(x, 1, 1, f, 0, 0, 0, 13, 95);
    }
    // CELLS on from an odd one.
    MailCatch y = laid(0, 9, 0, 3, 0, 4, 9);
    read(y, 1, 0, 1, 2, 2, 0, 17, 95);
    read(y, 1, 0, 3, 1, 1, 0, 21, 95);
  }

  private static void howMany() {
    for (int n = 0; n <= 20; n++) {
      // 15 CELLS: seven times two, and one.
      MailCatch x = laid(2, 0, 1, 0, 1, 0, 1, 0, 1, 0, 1, 0, 1, 0, 1, 0);
      int came = Math.min(n, 7);
      read(x, 1, 2, 0, n, came, n > 7 ? 2 : 0, 10 + came, 95);
    }
    MailCatch x = laid(2, 0, 1);
    x.read(1, 0, 0, 1);
    for (int n : new int[] {-1, 21, LEAST, MOST}) {
      read(x, 1, 2, 0, n, BAD, 3, 10, 95);
      read(x, 0, 2, 0, n, BAD, 3, 10, 95);
    }
  }

  private static void twentyOfAll() {
    for (int lane = 0; lane < 3; lane++) {
      int[] cells = new int[40];
      for (int i = 1; i < 40; i += 2) {
        cells[i] = 4;
      }
      MailCatch x = laid(lane, cells);
      read(x, 1, lane, 0, 20, 20, 0, 90, 95);
      read(x, 1, lane, 38, 1, 1, 0, 94, 95);
      read(x, 1, lane, 38, 2, 1, 2, 98, 95);
      read(x, 1, lane, 39, 1, 0, 2, 98, 95);
      read(x, 1, lane, 40, 1, 0, 2, 98, 95);
      read(x, 1, lane, 38, 1, -20, 2, 98, 95);
      // The last of twenty is refused: none came.
      x = laid(lane, cells);
      x.lay(1, 38, 2);
      read(x, 1, lane, 0, 20, -39, 0, 10, 95);
      read(x, 1, lane, 0, 19, 19, 0, 86, 95);
    }
  }

  // ---- what refuses it

  /** In whichever way: no such TOWN, LETTERS below 0 or above 99, more than 99 of them. */
  private static void refusedByPost() {
    int[][] pairs = {{2, 0}, {-1, 0}, {0, -1}, {0, 100}, {0, 90}, {1, 5}, {2, 100}, {-1, -1}};
    for (int[] pair : pairs) {
      MailCatch x = laid(2, pair[0], pair[1]);
      Check.due("post " + pair[0] + " " + pair[1], x.post(pair[0], pair[1]) < 0 ? 1 : 0, 1);
      read(x, 1, 2, 0, 1, -20, 0, 10, 95);
      read(x, 1, 2, 0, 20, -20, 0, 10, 95);
      MailCatch y = laid(2, 0, 1, 1, 1, pair[0], pair[1]);
      read(y, 1, 2, 0, 3, -22, 0, 10, 95);
      read(y, 1, 2, 0, 2, 2, 0, 11, 96);
    }
    int[][] taken = {{0, 0}, {1, 0}, {0, 89}, {1, 4}};
    for (int[] pair : taken) {
      MailCatch x = laid(2, pair[0], pair[1]);
      read(x, 1, 2, 0, 1, 1, 0, 10 + (pair[0] == 0 ? pair[1] : 0), 95 + (pair[0] == 1 ? pair[1] : 0));
    }
    // One behind another: what came ahead counts.
    MailCatch x = laid(0, 0, 50, 0, 39, 0, 1);
    read(x, 1, 0, 0, 3, -22, 0, 10, 95);
    read(x, 1, 0, 0, 2, 2, 0, 99, 95);
    read(x, 1, 0, 4, 1, -20, 0, 99, 95);
    // There is no TOWN at all.
    MailCatch y = new MailCatch();
    y.sheet(0, 0, 2);
    Check.due("no TOWN", y.read(0, 0, 0, 1), -20);
    Check.due("no TOWN: split", y.split(), 0);
    Check.due("no TOWN, none read", y.read(0, 0, 0, 0), 0);
    Check.due("99 and 1", laid(0, 1, 4, 1, 1).read(1, 0, 0, 2), -21);
    Check.due("FULL is what post answers", laid(0, 0).post(1, 5), FULL);
  }

  /** A FAULT ahead of what would be refused; what is refused ahead of a FAULT. */
  private static void theFirstMet() {
    MailCatch x = laid(0, 0, 1, 0);
    read(x, 1, 0, 0, 2, 1, 2, 11, 95);
    x = laid(0, 0, 1, 9);
    // Of a pair that is not whole nothing is posted: there is no TOWN 9.
    read(x, 1, 0, 0, 2, 1, 2, 11, 95);
    x = laid(0, 0, 1, 9, 1);
    read(x, 1, 0, 0, 3, -21, 0, 10, 95);
    x = laid(0, 9, 1, 0, 1);
    read(x, 1, 0, 0, 20, -20, 0, 10, 95);
    read(x, 1, 1, 0, 20, 0, 3, 10, 95);
    read(x, 0, 0, 0, 20, 0, 1, 10, 95);
  }

  private static void splitStays() {
    MailCatch x = laid(0, 0, 1, 9, 9);
    Check.due("no read yet", x.split(), 0);
    int[][] faults = {{0, 0, 0, 1, 1}, {1, 0, 4, 1, 2}, {1, 1, 0, 1, 3}};
    for (int[] f : faults) {
      Check.due("read", x.read(f[0], f[1], f[2], f[3]), 0);
      Check.due("split", x.split(), f[4]);
      Check.due("split again", x.split(), f[4]);
      // Refused: it stays.
      int[][] refused = {{4, 0, 0, 0, BAD}, {1, 3, 0, 0, BAD}, {1, 0, 0, 21, BAD}, {1, 0, 2, 1, -20}, {1, 0, 0, 2, -21}};
      for (int[] r : refused) {
        Check.due("refused read", x.read(r[0], r[1], r[2], r[3]), r[4]);
        Check.due("split behind it", x.split(), f[4]);
      }
      x.lay(1, 40, 1);
      x.lay(3, 0, 1);
      x.sheet(1, 0, -1);
      Check.due("split is of read() alone", x.split(), f[4]);
      x.keep(0);
      x.back(0);
      Check.due("split behind back()", x.split(), f[4]);
    }
    Check.due("read one", x.read(1, 0, 0, 1), 1);
    Check.due("split", x.split(), 0);
    x.read(1, 1, 0, 1);
    Check.due("split", x.split(), 3);
    Check.due("read none", x.read(0, 2, -1, 0), 0);
    Check.due("split", x.split(), 0);
  }
}
