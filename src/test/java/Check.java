/** Counts the calls whose answer is not the one that is due, and ends a test with them. */
final class Check {
  private int wrong = 0;
  private int asked = 0;

  void due(String call, long got, long want) {
    asked++;
    if (got != want) {
      wrong++;
      System.out.println(call + " answered " + got + ", due is " + want);
    }
  }

  void isTrue(String what, boolean holds) {
    asked++;
    if (!holds) {
      wrong++;
      System.out.println("does not hold: " + what);
    }
  }

  void end() {
    System.out.println(asked + " answers, " + wrong + " not as due");
    if (wrong != 0 || asked == 0) {
      System.exit(1);
    }
  }
}
