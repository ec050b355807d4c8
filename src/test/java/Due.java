/** Counts the answers of a test, and tells those that are not as due. */
final class Due {
  private static int asked = 0;
  private static int wrong = 0;

  private Due() {}

  static void is(String call, long got, long want) {
    asked++;
    if (got != want) {
      wrong++;
      if (wrong <= 40) System.out.println(call + " answered " + got + ", due is " + want);
    }
  }

  static void is(String call, boolean got, boolean want) {
    is(call, got ? 1 : 0, want ? 1 : 0);
  }

  /** A refusal: the answer, and the STATUS behind it. */
  static void refused(MeetHouse house, String call, long got, int status) {
    is(call, got, MeetHouse.NONE);
    is(call + ", its status", house.status(), status);
  }

  static void refused(MeetHouse house, String call, boolean got, int status) {
    is(call, got, false);
    is(call + ", its status", house.status(), status);
  }

  static boolean anyWrong() {
    return wrong != 0;
  }

  static void end() {
    System.out.println(wrong == 0 ? asked + " answers are as due" : wrong + " of " + asked + " answers are not as due");
    if (wrong != 0 || asked == 0) System.exit(1);
  }
}
