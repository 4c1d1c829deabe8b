import java.util.Set;
import java.util.TreeSet;

/** Numbers beside a bound. */
final class Numbers {
  private Numbers() {
  }

  /**
   * Numbers that are not from least to most: the first on each side, the ends of int, and those that
   * would pass if only their low bits, their amount or a shift by them were looked at.
   */
  static int[] not(int least, int most) {
    long[] tried = {least - 1L, most + 1L, Integer.MIN_VALUE, Integer.MAX_VALUE, -1, -least, -most,
        least + 32L, most + 32L, least + 256L, most + 256L, least + 65536L, most + 65536L,
        least + (1L << 31), most + (1L << 31)};
    Set<Integer> found = new TreeSet<>();
    for (long n : tried) {
      int wrapped = (int) n;
      if (wrapped < least || wrapped > most) {
        found.add(wrapped);
      }
    }
    return found.stream().mapToInt(Integer::intValue).toArray();
  }

  /** Numbers that are no set of two places at least. */
  static int[] notSetsOfPlaces() {
    Set<Integer> found = new TreeSet<>();
    for (int place = 0; place < 10; place++) {
      found.add(1 << place);
    }
    found.add(0);
    for (int bit = 10; bit < 32; bit++) {
      found.add(1 << bit);
      found.add(1 << bit | 1);
      found.add(1 << bit | 3);
      found.add(1 << bit | 1023);
    }
    found.add(-1);
    found.add(-3);
    found.add(Integer.MAX_VALUE);
    return found.stream().mapToInt(Integer::intValue).toArray();
  }
}
