/** What every test needs: answers that are due are counted, others told. */
final class Check {
  private static int asDue = 0;
  private static int wrong = 0;

  private Check() {
  }

  static void due(String what, long got, long want) {
    if (got == want) {
      asDue++;
      return;
    }
    wrong++;
    if (wrong <= 50) {
      System.out.println(what + " answered " + got + ", due is " + want);
    }
  }

  static void holds(String what, boolean is) {
    due(what, is ? 1 : 0, 1);
  }

  static int wrongOnes() {
    return wrong;
  }

  static void finish() {
    System.out.println(asDue + " answers as due, " + wrong + " not");
    if (wrong != 0 || asDue == 0) {
      System.exit(1);
    }
  }

  static void feed(MailCatch x, String text) {
    for (int i = 0; i < text.length(); i++) {
      x.feed(text.charAt(i));
    }
  }

  static int tell(MailCatch x, String text) {
    feed(x, text);
    return x.text();
  }

  static MailCatch told(String text) {
    MailCatch x = new MailCatch();
    int lines = tell(x, text);
    holds("'" + text + "' is taken", lines >= 0);
    return x;
  }
}
