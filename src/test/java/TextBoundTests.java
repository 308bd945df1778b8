import java.util.ArrayList;
import java.util.Arrays;
import java.util.List;
import java.util.Map;

/** Section 1 of the document: THE TAPE, TOKENS, lines with their bounds, FAULTS with their places, what a text leaves. */
public final class TextBoundTests {
  private static final int BAD = -1, STATE = -2, FULL = -3, NONE = -4;
  private static final List<String> KINDS = List.of("true", "light", "heavy", "double", "low");

  /** A line that can stand: its name, whether a KIND is behind it, its NUMBERS, and what each may be. */
  enum Line {
    JOINTS("joints", false, new int[] {2}, new int[][] {{2, 10}}),
    ARM("arm", true, new int[] {1, 1}, new int[][] {{1, 10}, {0, 9}}),
    MARK("mark", false, new int[] {1, 1}, new int[][] {{1, 10}, {0, 10}}),
    SIGNAL("signal", false, new int[] {1}, new int[][] {{1, 10}}),
    BRIDGE("bridge", false, new int[] {1}, new int[][] {{1, 10}}),
    SLIP("slip", false, new int[] {1}, new int[][] {{0, 10}}),
    PACE("pace", false, new int[] {1}, new int[][] {{1, 9}}),
    NET("net", false, new int[] {1, 11}, new int[][] {{1, 10}, {2, 11}}),
    COST("cost", false, new int[] {1, 1}, new int[][] {{0, 9}, {0, 9}}),
    TOWN("town", false, new int[] {1, 1}, new int[][] {{0, 99}, {0, 9}}),
    HANDS("hands", false, new int[] {1}, new int[][] {{1, 9}});

    final String begin;
    final boolean hasKind;
    final int[] plain;
    final int[][] bounds;

    Line(String begin, boolean hasKind, int[] plain, int[][] bounds) {
      this.begin = begin;
      this.hasKind = hasKind;
      this.plain = plain;
      this.bounds = bounds;
    }

    boolean standsOnce() {
      return this != ARM && this != MARK && this != SIGNAL && this != TOWN;
    }

    /** Its TOKENS, the NUMBER at a place being v. */
    List<String> tokens(int place, String v) {
      List<String> tokens = new ArrayList<>(List.of(begin));
      if (hasKind) {
        tokens.add("low");
      }
      for (int i = 0; i < plain.length; i++) {
        tokens.add(i == place ? v : "" + plain[i]);
      }
      tokens.add(";");
      return tokens;
    }

    List<String> tokens() {
      return tokens(NONE, "");
    }

    String text() {
      return String.join(" ", tokens());
    }

    /** What of the object the NUMBER at a place has told. */
    int told(MailCatch x, int place) {
      switch (this) {
        case JOINTS: return x.rule(0);
        case ARM: return x.arm(0, 1 + place);
        case MARK: return x.mark(0, place);
        case SIGNAL: return 1 + Integer.numberOfTrailingZeros(x.rule(4));
        case BRIDGE: return x.rule(5);
        case SLIP: return x.rule(6);
        case PACE: return x.rule(7);
        case NET: return x.rule(8 + place);
        case COST: return x.rule(10 + place);
        case TOWN: return x.town(0, place);
        default: return x.rule(12);
      }
    }
  }

  public static void main(String[] args) {
    bytesOfTheTape();
    endOfTheTape();
    textsOf160Bytes();
    everyByteAlone();
    everyByteBehindALine();
    blanks();
    longTokens();
    boundsOfNumbers();
    netOutAndIn();
    twoFigures();
    kinds();
    wrongTokens();
    endsOfTexts();
    namesOfOthers();
    lettersOfNames();
    onceAlone();
    jointsToldSo();
    rowsThatAreFull();
    jointsThatAreNot();
    firstMet();
    whatARefusedTextLeaves();
    whatATakenTextLeaves();
    atFirstWhatNoLineTells();
    faultOfTheLatest();
    manyLines();
    Check.finish();
  }

  private static void taken(String text, int lines) {
    MailCatch x = new MailCatch();
    Check.due("'" + text + "'", Check.tell(x, text), lines);
    Check.due("'" + text + "' fault", x.fault(), 0);
    Check.due("'" + text + "' tape", x.count(2), 0);
  }

  private static void refused(String text, int fault, int place) {
    MailCatch x = new MailCatch();
    Check.due("'" + text + "'", Check.tell(x, text), -10 - place);
    Check.due("'" + text + "' fault", x.fault(), fault);
    Check.due("'" + text + "' tape", x.count(2), 0);
    // That which was told stays.
    for (int what = 0; what < AT_FIRST.length; what++) {
      Check.due("'" + text + "' rule " + what, x.rule(what), AT_FIRST[what]);
    }
  }

  private static final int[] AT_FIRST = {6, 0, 0, 0, 0, 0, 1, 5, 2, 4, 1, 5, 3};

  // ---- THE TAPE

  private static void bytesOfTheTape() {
    MailCatch x = new MailCatch();
    for (int c = 0; c <= 127; c++) {
      Check.due("feed " + c, x.feed(c), c + 1);
    }
    for (int n = 129; n <= 160; n++) {
      Check.due("feed the " + n + "th", x.feed(59), n);
    }
    for (int c : new int[] {0, 59, 127}) {
      Check.due("feed " + c + " as the 161st", x.feed(c), FULL);
    }
    for (int c : new int[] {-1, 128, Integer.MIN_VALUE, Integer.MAX_VALUE}) {
      Check.due("feed " + c + " as the 161st", x.feed(c), BAD);
    }
    Check.due("bytes", x.count(2), 160);
    Check.due("end by 159", x.end(159), 160);
    Check.due("feed the 160th again", x.feed(0), 160);
    Check.due("feed the 161st again", x.feed(0), FULL);
  }

  private static void endOfTheTape() {
    MailCatch x = new MailCatch();
    Check.due("end of none", x.end(0), 0);
    Check.due("end by 1 of none", x.end(1), BAD);
    Check.feed(x, " ".repeat(160));
    Check.due("end by 161", x.end(161), BAD);
    Check.due("end by -1", x.end(-1), BAD);
    Check.due("bytes", x.count(2), 160);
    Check.due("end by 160", x.end(160), 160);
    Check.due("end by 1", x.end(1), 160);
    Check.due("end by 2 of 1", x.end(2), BAD);
    Check.due("end by 0", x.end(0), 1);
    Check.due("bytes", x.count(2), 0);
    // The first bytes are kept, those behind are gone for good.
    Check.feed(x, "slip 7;pace 9;");
    Check.due("end by 5", x.end(5), 14);
    Check.feed(x, "8;");
    Check.due("text", x.text(), 1);
    Check.due("SLIP", x.rule(6), 8);
    Check.due("PACE", x.rule(7), 5);
    Check.due("end behind text", x.end(1), BAD);
    Check.due("end of none behind text", x.end(0), 0);
    Check.due("feed behind text", x.feed(0), 1);
  }

  private static void textsOf160Bytes() {
    MailCatch x = Check.told(" ".repeat(153) + "slip 7;");
    Check.due("at the end of 160 bytes", x.rule(6), 7);
    x = Check.told("slip 7;" + " ".repeat(153));
    Check.due("at the start of 160 bytes", x.rule(6), 7);
    taken(" ".repeat(160), 0);
    refused(" ".repeat(159) + "#", 1, 159);
    refused(" ".repeat(159) + ";", 2, 159);
    refused(" ".repeat(159) + "a", 2, 159);
    refused(" ".repeat(154) + "slip 7", 2, 160);
    refused(" ".repeat(156) + "slip", 2, 160);
    refused(" ".repeat(150) + "bridge 07;", 6, 160);
    refused("signal 7;" + " ".repeat(151), 6, 160);
    // The 161st does not come: the line has no sign.
    refused(" ".repeat(154) + "slip 7;", 2, 160);
    refused(";".repeat(160), 2, 0);
    // As behind any text: the whole TAPE is free again.
    x = Check.told(" ".repeat(160));
    Check.due("160 bytes again", Check.tell(x, " ".repeat(153) + "pace 8;"), 1);
  }

  // ---- TOKENS

  private static int faultOfByte(int c) {
    boolean isToken = c >= 'a' && c <= 'z' || c >= '0' && c <= '9' || c == ';';
    return isToken ? 2 : 1;
  }

  private static void everyByteAlone() {
    for (int c = 0; c <= 127; c++) {
      String text = "" + (char) c;
      if (c == 32) {
        taken(text, 0);
      } else {
        refused(text, faultOfByte(c), 0);
      }
    }
  }

  /** Behind a NAME, a NUMBER, a sign: a byte that is none of a TOKEN ends it and is met itself. */
  private static void everyByteBehindALine() {
    for (int c = 0; c <= 127; c++) {
      boolean isName = c >= 'a' && c <= 'z';
      boolean isNumber = c >= '0' && c <= '9';
      refused("slip" + (char) c, isName || isNumber || c == 32 ? 2 : faultOfByte(c), isName ? 0 : c == ';' ? 4
          : isNumber || c == 32 ? 5 : 4);
      if (c != ';') {
        // A third figure is too long a NUMBER, told by its first.
        refused("slip 01" + (char) c, isNumber ? 1 : faultOfByte(c) == 1 && c != 32 ? 1 : 2,
            isNumber ? 5 : c == 32 ? 8 : 7);
      }
      if (c != 32) {
        refused("slip 1;" + (char) c, faultOfByte(c), 7);
      }
    }
    taken("slip 01;", 1);
    taken("slip 1; ", 1);
  }

  private static void blanks() {
    for (Line line : Line.values()) {
      List<String> tokens = line.tokens();
      for (int gap = 1; gap <= 12; gap++) {
        String between = " ".repeat(gap);
        taken(between + String.join(between, tokens) + between, 1);
      }
      // None is needed but between two NUMBERS and two NAMES.
      StringBuilder tight = new StringBuilder();
      for (int i = 0; i < tokens.size(); i++) {
        boolean isName = tokens.get(i).charAt(0) >= 'a';
        boolean isNumber = tokens.get(i).charAt(0) <= '9';
        boolean wasName = i > 0 && tokens.get(i - 1).charAt(0) >= 'a';
        boolean wasNumber = i > 0 && tokens.get(i - 1).charAt(0) <= '9';
        tight.append(isName && wasName || isNumber && wasNumber ? " " : "").append(tokens.get(i));
      }
      taken(tight.toString(), 1);
    }
    taken("", 0);
    taken("slip1;pace1;", 2);
    refused("armlow 1 1;", 2, 0);
    refused("arm low1 1 ;;", 2, 12);
    refused("arm low11;", 3, 7);
    refused("arm low1;", 2, 8);
    refused("cost 11;", 3, 5);
    refused("cost 1\t1;", 1, 6);
    refused("cost 1\n1;", 1, 6);
    refused("sl ip 1;", 2, 0);
  }

  private static void longTokens() {
    refused("a".repeat(160), 2, 0);
    refused("slip" + "p".repeat(156), 2, 0);
    refused("0".repeat(160), 1, 0);
    refused("slip " + "0".repeat(155), 1, 5);
    refused("arm " + "w".repeat(156), 2, 4);
    refused("slip 001;", 1, 5);
    refused("slip 100;", 1, 5);
    refused("100;", 1, 0);
    refused("slip 1 000;", 1, 7);
    refused("slip 1;010", 1, 7);
    refused("town 100 1;", 1, 5);
    refused("town 1 009;", 1, 7);
  }

  // ---- bounds of NUMBERS

  /** Ahead of a line: ten JOINTS, so that each JOINT is there. */
  private static String ahead(Line line) {
    return line == Line.JOINTS ? "" : "joints 10; ";
  }

  private static void boundsOfNumbers() {
    for (Line line : Line.values()) {
      for (int place = 0; place < line.plain.length; place++) {
        int least = line.bounds[place][0];
        int most = line.bounds[place][1];
        for (int v = 0; v <= 99; v++) {
          if (v >= least && v <= most) {
            stands(line, place, v);
          } else {
            outOfBounds(line, place, v);
          }
        }
      }
    }
  }

  private static void stands(Line line, int place, int v) {
    String text = ahead(line) + String.join(" ", line.tokens(place, "" + v));
    MailCatch x = Check.told(text);
    for (int i = 0; i < line.plain.length; i++) {
      Check.due("'" + text + "' tells", line.told(x, i), i == place ? v : line.plain[i]);
    }
  }

  private static void outOfBounds(Line line, int place, int v) {
    List<String> tokens = line.tokens(place, "" + v);
    int before = 1 + (line.hasKind ? 1 : 0) + place;
    String text = ahead(line) + String.join(" ", tokens.subList(0, before)) + " ";
    refused(text + v + " ;", 3, text.length());
    // It is met ahead of what stands behind it, whatever that is.
    refused(text + v + " #", 3, text.length());
    refused(text + v, 3, text.length());
  }

  private static void netOutAndIn() {
    for (int out = 1; out <= 10; out++) {
      for (int in = 0; in <= 12; in++) {
        String text = "net " + out + " ";
        if (in > out && in <= 11) {
          MailCatch x = Check.told(text + in + ";");
          Check.due(text + in + " OUT", x.rule(8), out);
          Check.due(text + in + " IN", x.rule(9), in);
        } else {
          refused(text + in + ";", 3, text.length());
        }
      }
    }
    // IN as it was or as at first tells nothing of whether it stands.
    MailCatch x = Check.told("net 9 10;");
    Check.due("net 1 2 behind it", Check.tell(x, "net 1 2;"), 1);
    Check.due("no net behind it", Check.tell(x, ""), 0);
    Check.due("OUT", x.rule(8), 2);
    Check.due("IN", x.rule(9), 4);
  }

  private static void twoFigures() {
    for (Line line : Line.values()) {
      for (int place = 0; place < line.plain.length; place++) {
        int v = Math.min(9, line.bounds[place][1]);
        String text = ahead(line) + String.join(" ", line.tokens(place, "0" + v));
        MailCatch x = Check.told(text);
        Check.due("'" + text + "' tells", line.told(x, place), v);
      }
    }
    refused("joints 00;", 3, 7);
    refused("joints 01;", 3, 7);
    taken("slip 00;", 1);
    refused("pace 00;", 3, 5);
    taken("town 00 00;", 1);
    taken("town 99 09;", 1);
  }

  private static void kinds() {
    for (int kind = 0; kind < KINDS.size(); kind++) {
      MailCatch x = Check.told("arm " + KINDS.get(kind) + " 6 9;");
      Check.due(KINDS.get(kind), x.arm(0, 0), kind);
      refused(KINDS.get(kind) + " 6 9;", 2, 0);
      refused("arm " + KINDS.get(kind) + "x 6 9;", 2, 4);
      refused("arm " + KINDS.get(kind).substring(1) + " 6 9;", 2, 4);
      refused("arm " + KINDS.get(kind).substring(0, 2) + " 6 9;", 2, 4);
    }
  }

  // ---- FAULTS 1, 2

  /** Each TOKEN of each line in its turn is another. */
  private static void wrongTokens() {
    for (Line line : Line.values()) {
      List<String> tokens = line.tokens();
      for (int i = 0; i < tokens.size(); i++) {
        String before = "town 1 1; " + String.join(" ", tokens.subList(0, i)) + (i == 0 ? "" : " ");
        boolean isNumber = tokens.get(i).charAt(0) <= '9';
        boolean isSign = tokens.get(i).equals(";");
        for (String behind : new String[] {"", " ;", " #", " 1 1;"}) {
          refused(before + "sack" + behind, 2, before.length());
          refused(before + "#" + behind, 1, before.length());
          refused(before + "100" + behind, 1, before.length());
          refused(before + "Slip" + behind, 1, before.length());
          refused(before + "-1" + behind, 1, before.length());
          if (!isNumber) {
            refused(before + "1" + behind, 2, before.length());
          }
          if (!isSign) {
            refused(before + ";" + behind, 2, before.length());
          }
          if (isNumber || isSign) {
            refused(before + "low" + behind, 2, before.length());
            refused(before + "town" + behind, 2, before.length());
          }
        }
      }
    }
  }

  private static void endsOfTexts() {
    for (Line line : Line.values()) {
      List<String> tokens = line.tokens();
      for (int i = 1; i < tokens.size(); i++) {
        for (String blanks : new String[] {"", " ", "     "}) {
          String text = "town 1 1;" + String.join(" ", tokens.subList(0, i)) + blanks;
          refused(text, 2, text.length());
        }
      }
      taken("town 1 1;" + line.text() + "   ", 2);
    }
  }

  private static void namesOfOthers() {
    for (Line line : Line.values()) {
      refused(line.begin + line.begin + " 1;", 2, 0);
      refused(line.begin + "s 1;", 2, 0);
      refused("a" + line.begin + " 1;", 2, 0);
      refused(line.begin.substring(0, line.begin.length() - 1) + " 1;", 2, 0);
      refused(line.begin.toUpperCase() + " 1;", 1, 0);
      // Nor is the name of a line a K.
      refused("arm " + line.begin + " 1 1;", 2, 4);
    }
  }

  /** Each letter of each NAME and each K counts. */
  private static void lettersOfNames() {
    for (Line line : Line.values()) {
      for (String other : others(line.begin)) {
        refused(line.text().replaceFirst(line.begin, other), 2, 0);
      }
    }
    for (String kind : KINDS) {
      for (String other : others(kind)) {
        refused("arm " + other + " 1 1;", 2, 4);
      }
    }
  }

  /** The name with one letter another, one letter left out, two letters changed about. */
  private static List<String> others(String name) {
    List<String> others = new ArrayList<>();
    for (int i = 0; i < name.length(); i++) {
      for (char c : new char[] {'a', 'q', 'z'}) {
        others.add(name.substring(0, i) + c + name.substring(i + 1));
      }
      others.add(name.substring(0, i) + name.substring(i + 1));
      if (i > 0) {
        others.add(name.substring(0, i - 1) + name.charAt(i) + name.charAt(i - 1) + name.substring(i + 1));
      }
    }
    others.remove(name);
    return others;
  }

  // ---- FAULTS 4, 5, 6

  private static void onceAlone() {
    for (Line line : Line.values()) {
      String twice = line.text() + "hands 2;".repeat(line == Line.HANDS ? 0 : 1) + " ";
      if (line.standsOnce()) {
        for (String again : new String[] {line.text(), line.begin, line.begin + " 99 #", line.begin + ";"}) {
          refused(twice + again, 4, twice.length());
        }
        // Another text may tell it again.
        MailCatch x = Check.told(line.text());
        Check.due(line.begin + " in another text", Check.tell(x, line.text()), 1);
      }
    }
    taken("town 1 1;town 1 1;signal 1;signal 2;mark 1 1;mark 2 1;arm low 1 1;arm low 2 1;", 8);
  }

  private static void jointsToldSo() {
    String[] begins = {"arm low ", "mark ", "signal "};
    String[] ends = {" 1;", " 1;", ";"};
    for (int of = 0; of < 3; of++) {
      for (int j = 1; j <= 10; j++) {
        String once = "joints 10;" + begins[of] + j + ends[of];
        String again = once + begins[of];
        refused(again + j + ends[of], 4, again.length());
        refused(again + "0" + j + " #", j == 10 ? 1 : 4, again.length());
        refused(again + j, 4, again.length());
        int another = j % 10 + 1;
        String third = again + another + ends[of] + begins[of];
        refused(third + j + ends[of], 4, third.length());
        refused(third + another + ends[of], 4, third.length());
        taken(again + another + ends[of], 3);
        // What is told so of another kind is no hindrance.
        taken(once + begins[(of + 1) % 3] + j + ends[(of + 1) % 3] + begins[(of + 2) % 3] + j + ends[(of + 2) % 3]
            + "bridge " + j + ";", 5);
      }
      MailCatch x = Check.told(begins[of] + 1 + ends[of]);
      Check.due(begins[of] + "in another text", Check.tell(x, begins[of] + 1 + ends[of]), 1);
    }
    // A JOINT told so, and a WORTH, a CLEAR out of its bounds behind it: the first met.
    refused("arm low 1 1;arm low 1 10;", 4, 20);
    refused("mark 1 1;mark 1 11;", 4, 14);
  }

  private static void rowsThatAreFull() {
    String arms = "arm low 1 1;arm low 2 1;arm low 3 1;";
    String marks = "mark 1 1;mark 2 1;mark 3 1;";
    String towns = "town 1 1;".repeat(5);
    taken(arms, 3);
    taken(marks, 3);
    taken(towns, 5);
    taken(arms + marks + towns, 11);
    for (String behind : new String[] {"", " ", ";", " low 4 1;", " low 1 1;", " 4 1;", " 99 #", " #"}) {
      refused(arms + "arm" + behind, 5, arms.length());
      refused(marks + "slip 1; mark" + behind, 5, marks.length() + 8);
      refused(towns + "town" + behind, 5, towns.length());
    }
    MailCatch x = Check.told(arms + marks + towns);
    Check.due("as many in another text", Check.tell(x, arms + marks + towns), 11);
    // Of SIGNALS there may be ten.
    StringBuilder signals = new StringBuilder("joints 10;");
    for (int j = 1; j <= 10; j++) {
      signals.append("signal ").append(j).append(";");
    }
    x = Check.told(signals.toString());
    Check.due("ten SIGNALS", x.rule(4), 1023);
    Check.due("ten SIGNALS", x.count(5), 10);
  }

  private static void jointsThatAreNot() {
    String[] begins = {"arm low ", "mark ", "signal ", "bridge "};
    String[] ends = {" 1;", " 1;", ";", ";"};
    for (int of = 0; of < 4; of++) {
      for (int joints = 2; joints <= 10; joints++) {
        String told = "joints " + joints + ";";
        for (int j = 1; j <= 10; j++) {
          String text = begins[of] + j + ends[of];
          if (j <= joints) {
            taken(told + text, 2);
            taken(text + told, 2);
          } else {
            refused(told + text, 6, told.length() + text.length());
            refused(text + told, 6, told.length() + text.length());
            refused(text + told + "  ", 6, told.length() + text.length() + 2);
          }
        }
      }
      // Six JOINTS at first, whatever was told ahead of this text.
      taken(begins[of] + 6 + ends[of], 1);
      refused(begins[of] + 7 + ends[of], 6, (begins[of] + 7 + ends[of]).length());
      MailCatch x = Check.told("joints 10;");
      Check.due(begins[of] + "7 behind ten JOINTS", Check.tell(x, begins[of] + 7 + ends[of]),
          -10 - (begins[of] + 7 + ends[of]).length());
      Check.due(begins[of] + "7 behind ten JOINTS: fault", x.fault(), 6);
    }
    // Any of them, not the first or the last alone.
    refused("arm low 7 1;arm low 1 1;arm low 2 1;", 6, 36);
    refused("arm low 1 1;arm low 7 1;arm low 2 1;", 6, 36);
    refused("arm low 1 1;arm low 2 1;arm low 7 1;", 6, 36);
    refused("mark 7 1;mark 1 1;mark 2 1;", 6, 27);
    refused("mark 1 1;mark 2 1;mark 7 1;", 6, 27);
    refused("signal 10;signal 1;", 6, 19);
  }

  /** What stands behind the first FAULT is not met; FAULT 6 is met behind all. */
  private static void firstMet() {
    String[] texts = {"#", "100", "sack", ";", "slip #", "slip 11", "slip ;", "net 3 3", "slip 1;slip", "arm low 1 10",
      "arm low 1 1;arm low 1", "mark 1 1;mark 1", "signal 1;signal 1"};
    int[] faults = {1, 1, 2, 2, 1, 3, 2, 3, 4, 3, 4, 4, 4};
    int[] places = {0, 0, 0, 0, 5, 5, 5, 6, 7, 10, 20, 14, 16};
    for (int i = 0; i < texts.length; i++) {
      for (String behind : texts) {
        refused(texts[i] + " " + behind, faults[i], places[i]);
        refused("bridge 7;" + texts[i] + " ;" + behind, faults[i], 9 + places[i]);
      }
    }
  }

  // ---- what a text leaves

  private static void whatARefusedTextLeaves() {
    String[] texts = {"#", "slip", "slip 11;", "slip 1;slip 2;", "arm low 1 1;arm low 2 1;arm low 3 1;arm low 4 1;",
      "joints 3;bridge 4;", "joints 4;mark 1 1;town 9 9;net 1 2;hands 9;#", "cost 9 9;signal 1;bridge 2;pace 1;slip 9"};
    for (Scene scene : Scene.values()) {
      for (String text : texts) {
        Twins.alike(scene, "'" + text + "'", x -> {
          x.end(0);
          return Check.tell(x, text) < -9 ? x.fault() : 0;
        }, x -> {
          x.end(0);
          Check.tell(x, faultAlone(text));
          return x.fault();
        });
      }
    }
    for (Scene scene : Scene.values()) {
      MailCatch x = scene.make();
      x.end(0);
      Map<String, Long> kept = Look.of(x);
      x = scene.make();
      x.end(0);
      Check.due(scene + ": a refused text", Check.tell(x, "pace 4;town 1 1;slip 12;"), -31);
      kept.put("fault", 3L);
      Check.holds(scene + ": a refused text leaves all but its FAULT", kept.equals(Look.of(x)));
    }
  }

  /** The shortest text that is refused for the same. */
  private static String faultAlone(String text) {
    MailCatch x = new MailCatch();
    Check.tell(x, text);
    return new String[] {"", "#", ";", "slip 99;", "slip 1;slip", "town 1 1;".repeat(5) + "town", "bridge 7;"}[x.fault()];
  }

  private static void whatATakenTextLeaves() {
    String[] texts = {"", "joints 4;mark 1 1;town 9 9;net 1 2;hands 9;cost 9 9;signal 1;bridge 2;pace 1;slip 9;",
      "arm true 1 1;town 1 1;"};
    for (Scene scene : Scene.values()) {
      for (String text : texts) {
        MailCatch x = scene.make();
        x.end(0);
        int split = x.split();
        Check.holds(scene + ": '" + text + "'", Check.tell(x, text) >= 0);
        Check.due(scene + ": SEEN", x.count(0), 0);
        Check.due(scene + ": IMAGES", x.count(1), 0);
        Check.due(scene + ": bytes", x.count(2), 0);
        Check.due(scene + ": CELLS", x.count(3), scene.cells[0]);
        Check.due(scene + ": split", x.split(), split);
        Check.due(scene + ": fault", x.fault(), 0);
        Check.due(scene + ": back 0", x.back(0), STATE);
        Check.due(scene + ": back 1", x.back(1), STATE);
        Check.due(scene + ": keep 0", x.keep(0), 0);
        Check.due(scene + ": keep 1", x.keep(1), 0);
      }
      sheetsStay(scene);
    }
  }

  private static void sheetsStay(Scene scene) {
    String towns = "town 1 1;".repeat(5);
    MailCatch x = scene.make();
    MailCatch y = scene.make();
    x.end(0);
    y.end(0);
    Check.due(scene + ": towns", Check.tell(x, towns), 5);
    Check.due(scene + ": towns twice", Check.tell(y, "slip 1;"), 1);
    Check.due(scene + ": towns twice", Check.tell(y, towns), 5);
    Check.holds(scene + ": two texts as one", Look.of(x).equals(Look.of(y)));
    for (int k = 0; k < 4; k++) {
      MailCatch z = scene.make();
      z.end(0);
      Check.tell(z, towns);
      int cells = scene.cells[k];
      Check.due(scene + ": SHEET " + k + " stays", z.lay(k, Math.max(0, cells), 1), cells < 0 ? -11 : -12);
      if (cells > 0) {
        Check.due(scene + ": its last CELL stays", z.lay(k, cells - 1, 1), 1);
      }
    }
  }

  /** Each line alone, behind a text that has told all otherwise. */
  private static void atFirstWhatNoLineTells() {
    String all = "joints 9;arm low 7 1;mark 7 1;town 9 9;signal 9;bridge 9;slip 9;pace 9;net 9 10;cost 8 8;hands 8;";
    int[][] told = {{0, 2}, {1, 1}, {2, 1}, {4, 1}, {5, 1}, {6, 1}, {7, 1}, {8, 1, 9, 11}, {10, 1, 11, 1}, {3, 1}, {12, 1}};
    for (Line line : Line.values()) {
      MailCatch x = Check.told(all);
      Check.due(line + " alone", Check.tell(x, line.text()), 1);
      int[] rules = AT_FIRST.clone();
      int[] changes = told[line.ordinal()];
      for (int i = 0; i < changes.length; i += 2) {
        rules[changes[i]] = changes[i + 1];
      }
      for (int what = 0; what < rules.length; what++) {
        Check.due(line + " alone: rule " + what, x.rule(what), rules[what]);
      }
      Check.due(line + " alone: ARMS", x.arm(rules[1], 0), BAD);
      Check.due(line + " alone: MARKS", x.mark(rules[2], 0), BAD);
      Check.due(line + " alone: TOWNS", x.town(rules[3], 0), BAD);
    }
    fewerRows();
  }

  /** An ARM, a MARK, a TOWN of before is not found again behind fewer of them. */
  private static void fewerRows() {
    MailCatch x = Check.told("arm low 3 9;arm true 4 9;mark 3 9;mark 4 9;town 9 9;town 8 8;");
    Check.tell(x, "arm heavy 5 1;mark 5 1;town 1 1;");
    int[] rows = {x.arm(0, 0), x.arm(0, 1), x.arm(0, 2), x.arm(1, 1), x.mark(0, 0), x.mark(0, 1), x.mark(1, 0),
      x.town(0, 0), x.town(0, 1), x.town(1, 0), x.minutes(2), x.count(4), x.counts(63, 1, 3), x.counts(63, 2, 3)};
    int[] due = {2, 5, 1, BAD, 5, 1, BAD, 1, 1, BAD, BAD, 1, 0, BAD};
    Check.holds("fewer rows: " + Arrays.toString(rows), Arrays.equals(rows, due));
    String many = "arm true 1 9;arm true 2 9;arm true 3 9;mark 1 5;mark 2 5;mark 3 5;" + "town 9 9;".repeat(5);
    String few = "joints 3;slip 0;net 1 11;pace 1;";
    x = Check.told(many + few);
    MailCatch y = Check.told(few);
    for (String text : new String[] {few + "arm true 1 9;mark 1 5;town 9 9;", few}) {
      Check.tell(x, text);
      Check.tell(y, text);
      x.see(2, 1);
      y.see(2, 1);
      long[] got = {x.worth(0), x.best(0), x.best(1), x.hits(0), x.where(3, 2, 0), x.fits(0), x.fits(3), x.fits(4),
        x.likely(0), x.sort(99, 0), x.hands(3), x.minutes(0), x.count(4), x.drift(3, 5), x.fog(0, 1)};
      long[] fresh = {y.worth(0), y.best(0), y.best(1), y.hits(0), y.where(3, 2, 0), y.fits(0), y.fits(3), y.fits(4),
        y.likely(0), y.sort(99, 0), y.hands(3), y.minutes(0), y.count(4), y.drift(3, 5), y.fog(0, 1)};
      Check.holds(text + " behind many rows: " + Arrays.toString(got), Arrays.equals(got, fresh));
    }
    Check.due("no bag is left", x.worth(0), 0);
    Check.due("no LETTER is left", x.count(4), 0);
  }

  private static void faultOfTheLatest() {
    MailCatch x = new MailCatch();
    Check.due("no text yet", x.fault(), 0);
    String[] texts = {"#", "slip 11;", "", "slip 1;slip 1;", "sack", "slip 1;", "mark 7 7;",
      "town 1 1;town 1 1;town 1 1;town 1 1;town 1 1;town", " "};
    int[] due = {1, 3, 0, 4, 2, 0, 6, 5, 0};
    for (int i = 0; i < texts.length; i++) {
      Check.tell(x, texts[i]);
      Check.due("fault of '" + texts[i] + "'", x.fault(), due[i]);
      Check.due("fault asked again", x.fault(), due[i]);
      Check.feed(x, "##");
      x.end(0);
      Check.due("fault while THE TAPE is fed", x.fault(), due[i]);
    }
  }

  private static void manyLines() {
    String text = "town1 1;".repeat(5) + "joints10;slip1;pace1;hands1;bridge1;";
    for (int j = 1; j <= 9; j++) {
      text += "signal" + j + ";";
    }
    taken(text, 19);
    refused(text + "signal9;", 4, text.length() + 6);
  }
}
