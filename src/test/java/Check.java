/** Counts the calls whose answer is not the one that is due, and ends a test with them. */
final class Check {
  private int wrong = 0;
  private int asked = 0;
  private int sentences = 0;
  private int askedBefore = 0;
  private String sentence = "";

  /** What follows tests this sentence of the document; a sentence without an answer is a fault. */
  void sentence(String words) {
    endSentence();
    sentence = words + " | ";
    sentences++;
  }

  void due(String call, long got, long want) {
    asked++;
    if (got != want) {
      wrong++;
      System.out.println(sentence + call + " answered " + got + ", due is " + want);
    }
  }

  void isTrue(String what, boolean holds) {
    asked++;
    if (!holds) {
      wrong++;
      System.out.println(sentence + "does not hold: " + what);
    }
  }

  void end() {
    endSentence();
    String of = sentences == 0 ? "" : " of " + sentences + " sentences";
    System.out.println(asked + " answers" + of + ", " + wrong + " not as due");
    if (wrong != 0 || asked == 0) {
      System.exit(1);
    }
  }

  private void endSentence() {
    if (sentences > 0 && asked == askedBefore) {
      wrong++;
      System.out.println(sentence + "nothing was asked");
    }
    askedBefore = asked;
  }
}
