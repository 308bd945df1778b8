/** An object in a state of which all is known: each is made anew, by less than half of the 512 calls it has. */
enum Scene {
  /** As it is made. */
  FRESH(6, 0, 0, 0, 0, 0, 0, -4, -4, -4, -4) {
    @Override
    void prepare(MailCatch x) {
    }
  },

  /** The least of everything, a SHEET without a CELL. */
  LEAST(2, 0, 0, 0, 0, 0, 0, 0, -4, -4, 1) {
    @Override
    void prepare(MailCatch x) {
      Check.tell(x, "joints 2;slip 0;pace 1;net 1 2;cost 0 0;hands 1;");
      x.sheet(0, 2, 0);
      x.sheet(3, 1, 1);
    }
  },

  /** Some of everything, only IMAGE 1, faults behind it. */
  MIDDLE(5, 1, 2, 2, 2, 2, 14, -4, 8, 3, -4) {
    @Override
    void prepare(MailCatch x) {
      Check.tell(x, "joints 5;arm heavy 3 7;mark 2 6;mark 4 3;town 20 5;town 40 2;signal 5;bridge 4;slip 3;hands 2;");
      x.see(2, 1);
      x.see(4, 4);
      x.keep(1);
      x.set(0, 2);
      x.post(1, 7);
      x.sheet(1, 2, 8);
      lay(x, 1, 0, 1, 1, 3, 0, 2);
      x.sheet(2, 0, 3);
      lay(x, 2, 1, 2, 1);
      x.read(1, 1, 0, 1);
      Check.tell(x, "slip 11;");
      Check.feed(x, "pace 7;slip 3;");
    }
  },

  /** The most of everything but of bytes. */
  FULL(10, 3, 3, 5, 6, 3, 14, 40, 40, 40, 40) {
    @Override
    void prepare(MailCatch x) {
      Check.tell(x, "joints 10;arm low 1 9;arm light 5 1;arm heavy 10 4;mark 2 5;mark 7 0;mark 10 10;"
          + "town 9 9;town 99 1;town 0 9;town 1 0;town 5 5;bridge 8;net 3 9;");
      int[][] seen = {{1, 1}, {3, 2}, {5, 4}, {7, 7}, {10, 10}, {3, 2}};
      for (int[] s : seen) {
        x.see(s[0], s[1]);
      }
      x.keep(0);
      changeAll(x);
      x.keep(1);
      x.set(0, 6);
      x.signal(4, false);
      x.post(3, 2);
      for (int k = 0; k < 4; k++) {
        x.sheet(k, k % 3, 40);
        lay(x, k, 2, 1 + k);
        x.lay(k, 38, 4);
        x.lay(k, 39, 2);
      }
      x.read(0, 0, 39, 1);
      Check.tell(x, "slip 1;slip");
      Check.feed(x, "pace 7;slip 3;");
    }

    private void changeAll(MailCatch x) {
      x.set(0, 4);
      x.set(1, 7);
      x.set(2, 3);
      x.net(2, 11);
      x.signal(4, true);
      x.signal(9, true);
      x.bridge(3);
      x.clear(0, 8);
      x.hang(1, 3);
      x.post(2, 50);
    }
  },

  /** 160 bytes on THE TAPE. */
  FULL_TAPE(3, 1, 1, 1, 1, 1, 160, 2, -4, -4, -4) {
    @Override
    void prepare(MailCatch x) {
      Check.tell(x, "joints 3;arm double 3 2;mark 1 1;town 8 8;");
      x.see(3, 3);
      x.keep(0);
      x.sheet(0, 1, 2);
      x.lay(0, 1, 3);
      Check.feed(x, " ".repeat(153) + "pace 7;");
    }
  };

  final int joints;
  final int arms;
  final int marks;
  final int towns;
  final int seen;
  /** Bits: 1 IMAGE 0, 2 IMAGE 1. */
  final int images;
  final int bytes;
  /** CELLS of each SHEET, -4 where there is nothing. */
  final int[] cells;

  Scene(int joints, int arms, int marks, int towns, int seen, int images, int bytes, int... cells) {
    this.joints = joints;
    this.arms = arms;
    this.marks = marks;
    this.towns = towns;
    this.seen = seen;
    this.images = images;
    this.bytes = bytes;
    this.cells = cells;
  }

  abstract void prepare(MailCatch x);

  MailCatch make() {
    MailCatch x = new MailCatch();
    prepare(x);
    return x;
  }

  static void lay(MailCatch x, int k, int... cells) {
    for (int i = 0; i < cells.length; i++) {
      x.lay(k, i, cells[i]);
    }
  }
}
