import java.util.EnumMap;
import java.util.Map;
import java.util.TreeMap;
import java.util.TreeSet;
import java.util.Set;

/** What a call changes: two objects of one Scene, of which one alone is called, and a Look at both. */
final class Twins {
  /** A call, or some: its answer. */
  interface Act {
    long on(MailCatch x);
  }

  private static final Map<Scene, Map<String, Long>> LEFT_ALONE = new EnumMap<>(Scene.class);

  private Twins() {
  }

  /** The call answers so, and all is as it was. */
  static void unchanged(Scene scene, String call, Act act, long due) {
    changed(scene, call, act, due);
  }

  /** The call is none that is refused, and all is as it was. */
  static void quiet(Scene scene, String call, Act act) {
    MailCatch x = scene.make();
    Check.holds(scene + ": " + call + " is no BAD", act.on(x) != MailCatch.BAD);
    compare(scene + ": " + call, Look.of(x), leftAlone(scene), new TreeMap<>());
  }

  /** The call answers so, and this alone is another: names of a Look, each with what it is then. */
  static void changed(Scene scene, String call, Act act, long due, Object... then) {
    MailCatch x = scene.make();
    Check.due(scene + ": " + call, act.on(x), due);
    Map<String, Long> others = new TreeMap<>();
    for (int i = 0; i + 1 < then.length; i += 2) {
      others.put((String) then[i], ((Number) then[i + 1]).longValue());
    }
    compare(scene + ": " + call, Look.of(x), leftAlone(scene), others);
  }

  /** What both do comes to the same. */
  static void alike(Scene scene, String call, Act one, Act other) {
    MailCatch x = scene.make();
    MailCatch y = scene.make();
    Check.due(scene + ": " + call, one.on(x), other.on(y));
    compare(scene + ": " + call, Look.of(x), Look.of(y), new TreeMap<>());
  }

  private static Map<String, Long> leftAlone(Scene scene) {
    return LEFT_ALONE.computeIfAbsent(scene, s -> Look.of(s.make()));
  }

  private static void compare(String call, Map<String, Long> got, Map<String, Long> was, Map<String, Long> others) {
    Set<String> names = new TreeSet<>(got.keySet());
    names.addAll(was.keySet());
    names.addAll(others.keySet());
    for (String name : names) {
      Long due = others.containsKey(name) ? others.get(name) : was.get(name);
      boolean isAsDue = due != null && due.equals(got.get(name));
      Check.holds(call + ", then " + name + " is " + got.get(name) + " (was " + was.get(name) + ")", isAsDue);
    }
  }
}
