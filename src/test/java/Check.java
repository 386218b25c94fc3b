/** Counts the answers that are not as due. */
final class Check {
  private int wrong = 0;

  void due(String call, long got, long want) {
    if (got != want) {
      wrong++;
      System.out.println(call + " answered " + got + ", due is " + want);
    }
  }

  void that(String what, boolean holds) {
    if (!holds) {
      wrong++;
      System.out.println("not so: " + what);
    }
  }

  void end(String name) {
    System.out.println(name + ": " + (wrong == 0 ? "all is as due" : wrong + " are not as due"));
    if (wrong != 0) System.exit(1);
  }
}
