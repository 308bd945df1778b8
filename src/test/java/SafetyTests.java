import java.lang.reflect.InvocationTargetException;
import java.lang.reflect.Method;
import java.util.ArrayList;
import java.util.List;

/** Every call with every mixture of small, bordering and extreme numbers: none throws, all answer as the Model. */
public final class SafetyTests {
  private static final Integer[] MANY = {0, 1, 2, 3, 5, 7, 10, -1, 11, 40, 128, Integer.MAX_VALUE, Integer.MIN_VALUE,
    4, 6, 8, 9, 12, 13, 20, 21, 31, 32, 33, 39, 41, 64, 99, 100, 127, 160, 161, 1023, 1024, 8192, 65536, -2, -10, -128,
    Integer.MAX_VALUE - 1, Integer.MIN_VALUE + 1, 1 << 30, -2147483647};
  private static final String[] TEXTS = {
    "",
    "joints 2;slip 0;",
    "joints 3;arm true 2 4;mark 2 5;signal 3;bridge 3;slip 2;net 1 3;town 10 2;town 7 3;",
    "joints 4;arm low 4 9;arm light 1 9;arm heavy 3 0;mark 1 0;mark 4 10;mark 2 3;signal 1;signal 2;signal 3;"
      + "signal 4;bridge 2;town 99 9;",
    "joints 2;town 1 1;town 2 2;town 3 3;town 4 4;town 5 5;slip 10;pace 9;",
  };

  private static final int CALLS = 512;

  private static long calls = 0;

  private final String text;
  private MailCatch x;
  private Model y;
  private int called;

  private SafetyTests(String text) {
    this.text = text;
    remake();
  }

  public static void main(String[] args) throws Exception {
    for (String text : TEXTS) {
      for (Method m : MailCatch.class.getDeclaredMethods()) {
        if (java.lang.reflect.Modifier.isPublic(m.getModifiers())) {
          new SafetyTests(text).all(m);
        }
      }
    }
    System.out.println(calls + " calls");
    Check.finish();
  }

  private void all(Method m) throws Exception {
    Method same = Model.class.getDeclaredMethod(m.getName(), m.getParameterTypes());
    same.setAccessible(true);
    go(m, same, new ArrayList<>());
  }

  private void remake() {
    x = new MailCatch();
    y = new Model();
    for (char c : text.toCharArray()) {
      x.feed(c);
      y.feed(c);
    }
    Check.due(text, x.text(), y.text());
    x.sheet(0, 0, 4);
    y.sheet(0, 0, 4);
    x.sheet(2, 2, 40);
    y.sheet(2, 2, 40);
    x.lay(0, 1, 1);
    y.lay(0, 1, 1);
    x.see(1, 1);
    y.see(1, 1);
    x.keep(1);
    y.keep(1);
    called = text.length() + 6;
  }

  private void go(Method m, Method same, List<Object> args) throws Exception {
    if (args.size() < m.getParameterCount()) {
      int left = m.getParameterCount() - args.size();
      if (m.getParameterTypes()[args.size()] == boolean.class) {
        for (boolean is : new boolean[] {true, false, true}) {
          more(m, same, args, is);
        }
        return;
      }
      int many = m.getParameterCount() >= 3 ? (left <= 1 ? MANY.length : 13) : MANY.length;
      for (int i = 0; i < many; i++) {
        more(m, same, args, MANY[i]);
      }
      return;
    }
    if (called == CALLS) {
      remake();
    }
    calls++;
    called++;
    try {
      long got = ((Number) m.invoke(x, args.toArray())).longValue();
      long want = ((Number) same.invoke(y, args.toArray())).longValue();
      Check.due(m.getName() + args, got, want);
    } catch (InvocationTargetException e) {
      Check.holds(m.getName() + args + " threw " + e.getCause(), false);
    }
  }

  private void more(Method m, Method same, List<Object> args, Object one) throws Exception {
    args.add(one);
    go(m, same, args);
    args.remove(args.size() - 1);
  }
}
