import java.io.IOException;
import java.lang.ProcessBuilder.Redirect;
import java.lang.reflect.Method;
import java.lang.reflect.Modifier;
import java.nio.charset.StandardCharsets;
import java.nio.file.Files;
import java.nio.file.Path;
import java.util.ArrayList;
import java.util.Comparator;
import java.util.List;
import java.util.Map;
import java.util.TreeMap;
import java.util.TreeSet;
import java.util.regex.Matcher;
import java.util.regex.Pattern;
import java.util.stream.Stream;

/**
 * What README.md shows is done as it stands there: its program is compiled and run by its own commands and prints what it
 * says; each call with an answer behind it ("x.text();  // 0: ..") is compiled, run and gives that answer; each text of its
 * table is told, each bound of a line is tried.
 */
public final class ReadmeTests {
  private static final String CLASS = "src/main/java/MailCatch.java";
  // As rule() counts them; net and cost have two.
  private static final List<String> RULES = List.of("joints", "arm", "mark", "town", "signal", "bridge", "slip", "pace",
      "net", "(IN)", "cost", "(of a TORN net)", "hands");
  private static final Pattern ANSWERED = Pattern.compile("^(\\S.*\\));\\s*// (-?\\d+)(: .*)?$");

  /** What stands between two fences, from the line behind the first on (lines are counted from 1). */
  private record Block(String kind, int line, List<String> text) {
    private boolean has(String words) {
      return String.join("\n", text).contains(words);
    }
  }

  private final List<String> lines = Files.readAllLines(Path.of("README.md"), StandardCharsets.UTF_8);
  private final List<Block> blocks = blocks();
  private final Path place = Files.createTempDirectory("readme");

  private ReadmeTests() throws IOException {
  }

  public static void main(String[] args) throws Exception {
    ReadmeTests tests = new ReadmeTests();
    try {
      tests.bringClass();
      tests.programs();
      tests.calls();
    } finally {
      tests.clean();
    }
    tests.texts();
    tests.bounds();
    tests.constants();
    tests.namesOfTests();
    Check.finish();
  }

  private List<Block> blocks() {
    List<Block> found = new ArrayList<>();
    Block open = null;
    for (int i = 0; i < lines.size(); i++) {
      String line = lines.get(i);
      if (!line.startsWith("```")) {
        if (open != null) {
          open.text().add(line);
        }
      } else if (open == null) {
        open = new Block(line.substring(3), i + 2, new ArrayList<>());
      } else {
        found.add(open);
        open = null;
      }
    }
    Check.holds("each block has its end", open == null);
    return found;
  }

  // ---- programs, as one who reads would do it: the file, the commands, what comes of them

  private void bringClass() throws IOException {
    Path copy = place.resolve(CLASS);
    Files.createDirectories(copy.getParent());
    Files.copy(Path.of(CLASS), copy);
  }

  private void programs() throws Exception {
    int programs = 0;
    for (int i = 0; i < blocks.size(); i++) {
      if (!blocks.get(i).kind().equals("java") || !blocks.get(i).has("public static void main")) {
        continue;
      }
      programs++;
      boolean isWhole = i + 2 < blocks.size() && blocks.get(i + 1).kind().equals("sh")
          && blocks.get(i + 2).kind().equals("text");
      Check.holds("behind a program stand its commands and what it prints", isWhole);
      if (isWhole) {
        program(blocks.get(i), blocks.get(i + 1), blocks.get(i + 2));
      }
    }
    Check.holds("README.md shows a program", programs > 0);
  }

  private void program(Block program, Block commands, Block prints) throws Exception {
    Matcher name = Pattern.compile("public class (\\w+)").matcher(String.join("\n", program.text()));
    Check.holds("the program has a name", name.find());
    Files.write(place.resolve(name.group(1) + ".java"), program.text());
    List<String> got = run("bash", "-e", "-c", String.join("\n", commands.text()));
    Check.due(name.group(1) + " prints lines", got.size(), prints.text().size());
    for (int i = 0; i < prints.text().size(); i++) {
      String line = i < got.size() ? got.get(i) : "nothing";
      Check.holds("README.md:" + (prints.line() + i) + " says '" + prints.text().get(i) + "', it prints '" + line + "'",
          line.equals(prints.text().get(i)));
    }
  }

  // ---- calls with their answers

  private void calls() throws Exception {
    StringBuilder members = new StringBuilder();
    StringBuilder uses = new StringBuilder();
    TreeMap<Integer, Long> due = new TreeMap<>();
    for (Block block : blocks) {
      if (!block.kind().equals("java") || block.has("public static void main")) {
        continue;
      }
      if (block.text().get(0).startsWith("static ")) {
        members.append(String.join("\n", block.text())).append('\n');
      } else {
        uses.append("{\n").append(asked(block, due)).append("}\n");
      }
    }
    answers(due, "public class Calls {\n" + members + "static void said(int line, long answer) {\n"
        + "System.out.println(line + \" \" + answer);\n}\npublic static void main(String[] args) {\n" + uses + "}\n}\n");
    fractions(due);
    TreeSet<String> called = new TreeSet<>();
    Matcher call = Pattern.compile("\\bx\\.(\\w+)\\(").matcher(uses);
    while (call.find()) {
      called.add(call.group(1));
    }
    Check.holds("README.md shows each call; it has " + called, called.equals(callsOfFace()));
  }

  /** The block's calls so that each says its line and its answer; what is due there is noted. */
  private static String asked(Block block, Map<Integer, Long> due) {
    StringBuilder asked = new StringBuilder();
    for (int i = 0; i < block.text().size(); i++) {
      String line = block.text().get(i);
      Matcher answered = ANSWERED.matcher(line);
      if (answered.matches()) {
        due.put(block.line() + i, Long.parseLong(answered.group(2)));
        asked.append("said(").append(block.line() + i).append(", ").append(answered.group(1)).append(");\n");
      } else {
        Check.holds("README.md:" + (block.line() + i) + " has a call and its answer: " + line,
            line.equals("MailCatch x = new MailCatch();"));
        asked.append(line).append('\n');
      }
    }
    return asked.toString();
  }

  /** Where a fraction is told, its numerator is that line's answer, its denominator the next one's. */
  private void fractions(Map<Integer, Long> due) {
    int told = 0;
    for (int line : due.keySet()) {
      Matcher fraction = Pattern.compile(": .*?(-?\\d+)/(\\d+)$").matcher(lines.get(line - 1));
      if (fraction.find()) {
        told++;
        Check.due("README.md:" + line + " numerator", Long.parseLong(fraction.group(1)), due.get(line));
        Check.due("README.md:" + line + " denominator", Long.parseLong(fraction.group(2)), due.getOrDefault(line + 1, 0L));
      }
    }
    Check.holds("README.md tells fractions", told > 0);
  }

  private void answers(Map<Integer, Long> due, String program) throws Exception {
    Files.writeString(place.resolve("Calls.java"), program);
    Files.createDirectories(place.resolve("calls"));
    run("javac", "-d", "calls", CLASS, "Calls.java");
    List<String> said = run("java", "-cp", "calls", "Calls");
    Check.due("calls of README.md that answer", said.size(), due.size());
    for (String one : said) {
      String[] parts = one.split(" ");
      int line = Integer.parseInt(parts[0]);
      Check.due("README.md:" + line + " " + lines.get(line - 1).trim(), Long.parseLong(parts[1]), due.get(line));
    }
  }

  private static TreeSet<String> callsOfFace() {
    TreeSet<String> names = new TreeSet<>();
    for (Method m : MailCatch.class.getDeclaredMethods()) {
      if (Modifier.isPublic(m.getModifiers())) {
        names.add(m.getName());
      }
    }
    return names;
  }

  // ---- tables

  /** The rows of the table that begins so, each by its cells; what stands between ` has lost them. */
  private List<String[]> rowsOf(String head) {
    int at = lines.indexOf(head);
    Check.holds("README.md has a table " + head, at >= 0);
    List<String[]> rows = new ArrayList<>();
    for (int i = at + 2; at >= 0 && i < lines.size() && lines.get(i).startsWith("|"); i++) {
      String[] cells = lines.get(i).split("\\|");
      String[] row = new String[cells.length - 1];
      for (int c = 1; c < cells.length; c++) {
        // A blank between ` is one of the text: only those outside are taken away.
        row[c - 1] = cells[c].trim().replaceAll("^`|`$", "");
      }
      rows.add(row);
    }
    Check.holds("it has rows", !rows.isEmpty());
    return rows;
  }

  private void texts() {
    TreeSet<Integer> faults = new TreeSet<>();
    for (String[] row : rowsOf("| text | text() | fault() | why |")) {
      MailCatch x = new MailCatch();
      Check.due("README.md: '" + row[0] + "' text()", Check.tell(x, row[0]), Integer.parseInt(row[1]));
      Check.due("README.md: '" + row[0] + "' fault()", x.fault(), Integer.parseInt(row[2]));
      if (row[3].startsWith("place ")) {
        int place = Integer.parseInt(row[3].split("[ ,:]")[1]);
        Check.due("README.md: '" + row[0] + "' place", place, -10 - Integer.parseInt(row[1]));
      }
      faults.add(x.fault());
    }
    Check.holds("README.md shows each FAULT: " + faults, faults.size() == 7);
  }

  /** Each NUMBER of each line by its bounds, which are taken, and beside them. */
  private void bounds() {
    int tried = 0;
    for (String[] row : rowsOf("| line | what it tells | its numbers | at first | how often |")) {
      int[][] bounds = boundsOf(row[2]);
      Check.due("numbers of " + row[0], bounds.length, row[0].split("N", -1).length - 1);
      for (int n = 0; n < bounds.length; n++) {
        for (int v : new int[] {bounds[n][0] - 1, bounds[n][0], bounds[n][1], bounds[n][1] + 1}) {
          boolean isIn = v >= bounds[n][0] && v <= bounds[n][1];
          if (v >= 0) {
            MailCatch x = new MailCatch();
            Check.tell(x, lineWith(row[0], bounds, n, v));
            // 100 is too long for a NUMBER, which is the first FAULT.
            Check.due("FAULT of " + lineWith(row[0], bounds, n, v), x.fault(), isIn ? 0 : v > 99 ? 1 : 3);
            tried++;
          }
        }
      }
      atFirst(row[0], row[3]);
      times(row[0], bounds, row[4]);
    }
    Check.holds("bounds were tried", tried > 40);
  }

  private static void atFirst(String line, String told) {
    int rule = RULES.indexOf(line.split(" ")[0]);
    String[] numbers = told.equals("none") ? new String[] {"0"} : told.split(", ");
    for (int n = 0; n < numbers.length; n++) {
      int first = new MailCatch().rule(rule + n);
      Check.due("at first: rule " + (rule + n) + " of " + line, first, Integer.parseInt(numbers[n]));
    }
  }

  private static int[][] boundsOf(String told) {
    String[] each = told.split(", ");
    int[][] bounds = new int[each.length][];
    for (int n = 0; n < each.length; n++) {
      String[] ends = each[n].split(" to ");
      bounds[n] = new int[] {Integer.parseInt(ends[0]), Integer.parseInt(ends[1])};
    }
    return bounds;
  }

  /** The n-th NUMBER is v; those ahead are the least, those behind the greatest, so that IN is above OUT. */
  private static String lineWith(String line, int[][] bounds, int n, int v) {
    String text = line.replace("K", "true");
    for (int k = 0; k < bounds.length; k++) {
      text = text.replaceFirst("N", String.valueOf(k == n ? v : k < n ? bounds[k][0] : bounds[k][1]));
    }
    return line.startsWith("joints") ? text : "joints 10;" + text;
  }

  /** So often the line may stand in a text, and no more often. */
  private static void times(String line, int[][] bounds, String often) {
    int most = often.startsWith("once") ? 1 : Integer.parseInt(often.split(" ")[0]);
    String text = line.startsWith("joints") ? "" : "joints 10;";
    for (int time = 1; time <= most + 1; time++) {
      // An ARM or a MARK more is at another JOINT, a SIGNAL for the second time at the same.
      int first = Math.max(bounds[0][0], often.startsWith("once") ? 2 : time);
      int second = bounds.length == 2 ? bounds[1][1] : 0;
      text += line.replace("K", "low").replaceFirst("N", "" + first).replaceFirst("N", "" + second);
      MailCatch x = new MailCatch();
      Check.tell(x, text);
      Check.due("FAULT of " + text, x.fault(), time <= most ? 0 : often.startsWith("once") ? 4 : 5);
    }
  }

  private void constants() throws Exception {
    List<String[]> rows = rowsOf("| answer | number | when |");
    Check.due("constants that README.md names", rows.size(), 4);
    for (String[] row : rows) {
      Check.due(row[0], MailCatch.class.getField(row[0]).getInt(null), Integer.parseInt(row[1]));
    }
  }

  private void namesOfTests() throws IOException {
    TreeSet<String> told = new TreeSet<>();
    for (String[] row : rowsOf("| test | what it does |")) {
      told.add(row[0] + ".java");
    }
    TreeSet<String> there = new TreeSet<>();
    try (Stream<Path> files = Files.list(Path.of("src/test/java"))) {
      files.map(file -> file.getFileName().toString()).filter(name -> name.endsWith("Tests.java")).forEach(there::add);
    }
    Check.holds("README.md names the tests " + told + ", there are " + there, told.equals(there));
  }

  // ---- what the machine is asked for

  private List<String> run(String... command) throws Exception {
    // What a machine says of itself on its other stream ("Picked up ..") is no answer.
    Process process = new ProcessBuilder(command).directory(place.toFile()).redirectError(Redirect.INHERIT).start();
    process.getOutputStream().close();
    String printed = new String(process.getInputStream().readAllBytes(), StandardCharsets.UTF_8);
    Check.holds(String.join(" ", command) + " ends well", process.waitFor() == 0);
    return printed.isEmpty() ? List.of() : printed.lines().toList();
  }

  private void clean() throws IOException {
    try (Stream<Path> all = Files.walk(place)) {
      for (Path one : all.sorted(Comparator.reverseOrder()).toList()) {
        Files.delete(one);
      }
    }
  }
}
