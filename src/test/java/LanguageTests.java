import java.lang.reflect.Field;
import java.lang.reflect.Method;
import java.lang.reflect.Modifier;
import java.nio.charset.StandardCharsets;
import java.nio.file.Files;
import java.nio.file.Path;
import java.util.ArrayList;
import java.util.Arrays;
import java.util.List;
import java.util.Set;
import java.util.TreeSet;
import java.util.regex.Matcher;
import java.util.regex.Pattern;

/** The public face, and what of ../shared/LANGUAGE.md can be seen from outside or read off the source. */
public final class LanguageTests {
  private static final String[] FACE = {
    "int feed(int)", "int end(int)", "int text()", "int fault()", "int rule(int)", "int arm(int,int)",
    "int mark(int,int)", "int town(int,int)", "int set(int,int)", "int net(int,int)", "int signal(int,boolean)",
    "int bridge(int)", "int clear(int,int)", "int hang(int,int)", "int post(int,int)", "int night(int,int,int)",
    "int counts(int,int,int)", "long where(int,int,int)", "long goes(int,int)", "long isOut(int,int)",
    "long had(int,int)", "long hits(int)", "long torn(int)", "long worth(int)", "long best(int)", "int fog(int,int)",
    "int fast(int,int)", "int slack(int,int)", "int sort(int,int)", "int minutes(int)", "int hands(int)",
    "int see(int,int)", "int forget(int)", "int fits(int)", "long likely(int)", "int drift(int,int)", "int keep(int)",
    "int back(int)", "int sheet(int,int,int)", "int lay(int,int,int)", "int read(int,int,int,int)", "int split()",
    "int count(int)",
  };
  private static final String[] NOT_IN_IT = {
    "throw", "throws", "try", "catch", "finally", "synchronized", "assert", "volatile", "transient", "native", "Object",
    "System.out", "System.err", "System.nanoTime", "System.currentTimeMillis", "Thread", "Random", "Exact", "protected",
  };
  private static final Set<String> NEW_OF_JAVA = Set.of("int", "long", "short", "byte", "char", "boolean", "double", "float",
      "String", "StringBuilder", "ArrayList");

  public static void main(String[] args) throws Exception {
    inside(face());
    source(Files.readString(Path.of("src/main/java/MailCatch.java"), StandardCharsets.UTF_8));
    Check.finish();
  }

  /** The names of the public methods. */
  private static Set<String> face() {
    Check.holds("the class is public and final", Modifier.isPublic(MailCatch.class.getModifiers())
        && Modifier.isFinal(MailCatch.class.getModifiers()));
    Check.due("constructors", MailCatch.class.getDeclaredConstructors().length, 1);
    Check.holds("the constructor", Modifier.isPublic(MailCatch.class.getDeclaredConstructors()[0].getModifiers())
        && MailCatch.class.getDeclaredConstructors()[0].getParameterCount() == 0);
    Set<String> due = new TreeSet<>(Arrays.asList(FACE));
    Set<String> names = new TreeSet<>();
    Set<String> found = new TreeSet<>();
    for (Method m : MailCatch.class.getDeclaredMethods()) {
      if (Modifier.isPublic(m.getModifiers())) {
        names.add(m.getName());
        List<String> types = new ArrayList<>();
        for (Class<?> type : m.getParameterTypes()) {
          types.add(type.getName());
        }
        found.add(m.getReturnType().getName() + " " + m.getName() + "(" + String.join(",", types) + ")");
      }
    }
    Check.holds("the methods are " + found, found.equals(due));
    for (Method m : MailCatch.class.getDeclaredMethods()) {
      if (!Modifier.isPublic(m.getModifiers())) {
        Check.holds(m + " is private", Modifier.isPrivate(m.getModifiers()) || m.isSynthetic());
        Check.holds(m + " has no public one's name", !names.contains(m.getName()));
      }
    }
    return names;
  }

  private static void inside(Set<String> namesOfFace) {
    List<Class<?>> all = new ArrayList<>(Arrays.asList(MailCatch.class.getDeclaredClasses()));
    Check.holds("some twelve classes: " + all.size(), all.size() <= 12);
    for (Class<?> c : all) {
      boolean isOpen = Modifier.isPublic(c.getModifiers()) || Modifier.isProtected(c.getModifiers());
      Check.holds(c + " is private or package-visible, and static", !isOpen && Modifier.isStatic(c.getModifiers()));
      for (Method m : c.getDeclaredMethods()) {
        boolean isPrivate = Modifier.isPrivate(m.getModifiers());
        Check.holds(m + " has no public one's name", !isPrivate || !namesOfFace.contains(m.getName()));
      }
    }
    all.add(MailCatch.class);
    for (Class<?> c : all) {
      fields(c);
      for (Method m : c.getDeclaredMethods()) {
        Check.holds(m + " takes at most seven", m.getParameterCount() <= 7);
        Check.holds(m + " is none of Object's", m.isSynthetic() || c.isRecord() || c.isEnum()
            || !Set.of("equals", "hashCode", "toString").contains(m.getName()));
      }
    }
  }

  private static void fields(Class<?> c) {
    int own = 0;
    for (Field f : c.getDeclaredFields()) {
      boolean isConstant = Modifier.isStatic(f.getModifiers());
      own += isConstant ? 0 : 1;
      Check.holds(f + " is final if static", !isConstant || Modifier.isFinal(f.getModifiers()));
      if (c == MailCatch.class) {
        boolean isOfFace = Set.of("BAD", "STATE", "FULL", "NONE").contains(f.getName());
        Check.holds(f + " is private unless the face's", Modifier.isPublic(f.getModifiers()) == isOfFace
            && Modifier.isPrivate(f.getModifiers()) != isOfFace);
      }
    }
    Check.holds(c + " has some twenty fields: " + own, own <= 20);
  }

  private static void source(String text) {
    Check.holds("only signs 1 to 127", text.chars().allMatch(c -> c >= 1 && c < 128));
    Matcher imports = Pattern.compile("(?m)^import (.*);").matcher(text);
    while (imports.find()) {
      Check.holds("import " + imports.group(1), Set.of("java.util.Arrays", "java.util.ArrayList", "java.util.List")
          .contains(imports.group(1)));
    }
    String code = text.replaceAll("(?s)/\\*.*?\\*/", "").replaceAll("//[^\n]*", "").replaceAll("\"[^\"\n]*\"", "\"\"");
    Check.holds("no package", !code.contains("package "));
    for (String word : NOT_IN_IT) {
      Check.holds("no " + word, !Pattern.compile("(?<![A-Za-z_])" + Pattern.quote(word) + "(?![A-Za-z_])").matcher(code).find());
    }
    Check.holds("no lambda", !Pattern.compile("(?m)^(?!\\s*(case|default)\\b).*->").matcher(code).find());
    Check.holds("no method reference", !code.contains("::"));
    Check.holds("no texts joined by +", !code.contains("\"\" +") && !code.contains("+ \"\""));
    Set<String> own = new TreeSet<>(NEW_OF_JAVA);
    for (Class<?> c : MailCatch.class.getDeclaredClasses()) {
      own.add(c.getSimpleName());
    }
    Matcher made = Pattern.compile("\\bnew (\\w+)").matcher(code);
    while (made.find()) {
      Check.holds("new " + made.group(1), own.contains(made.group(1)));
    }
    Check.holds("no this as an argument", !Pattern.compile("[(,]\\s*this\\s*[,)]").matcher(code).find());
    Check.holds("no field is handed to what another is made of",
        !Pattern.compile("(?m)^ {4,8}private (final )?\\w+ \\w+ = new \\w+\\([a-z]").matcher(code).find());
    lengths(code.split("\n"));
  }

  /** No method of more than sixty lines: one begins where a line of its indent ends in "{" and has a "(". */
  private static void lengths(String[] lines) {
    for (int i = 0; i < lines.length; i++) {
      Matcher head = Pattern.compile("^( {4}| {8})(private|public) .*\\(.*\\{$").matcher(lines[i]);
      if (head.find()) {
        int end = i;
        while (end < lines.length && !lines[end].equals(head.group(1) + "}")) {
          end++;
        }
        Check.holds("short: " + lines[i].trim(), end - i < 60);
      }
    }
  }
}
