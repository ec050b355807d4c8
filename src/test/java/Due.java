import java.util.function.Predicate;
import java.util.function.Supplier;
import java.util.function.ToLongFunction;

/** Counts the answers of a test, and tells those that are not as due with the case that asked for them. */
final class Due {
  private static final int TOLD_AT_MOST = 40;

  private static String caseName = "";
  private static int asked = 0;
  private static int askedBefore = 0;
  private static int wrong = 0;
  private static int cases = 0;

  private Due() {}

  static void begin(String name) {
    caseName = name;
    askedBefore = asked;
    cases++;
  }

  /** A case that asks for nothing would never fail. */
  static void endCase() {
    if (asked == askedBefore) fail("asks for no answer");
    caseName = "";
  }

  static void fail(String what) {
    wrong++;
    String at = caseName.isEmpty() ? "" : caseName + ": ";
    if (wrong <= TOLD_AT_MOST) System.out.println(at + what);
  }

  static void is(String call, long got, long want) {
    asked++;
    if (got != want) fail(call + " answered " + got + ", due is " + want);
  }

  static void is(String call, boolean got, boolean want) {
    is(call, got ? 1 : 0, want ? 1 : 0);
  }

  /** An answer of a call that may be refused, but isn't: STATUS is 0 behind it, whatever it was. */
  static void accepted(MeetHouse house, String call, long want, ToLongFunction<MeetHouse> asks) {
    house.keeper(0, 0);
    is(call, asks.applyAsLong(house), want);
    is(call + ", its status()", house.status(), 0);
  }

  static void acceptedTrue(MeetHouse house, String call, Predicate<MeetHouse> asks) {
    accepted(house, call, 1, h -> asks.test(h) ? 1 : 0);
  }

  /** A call on a new house is refused: it answers NONE, tells why by STATUS and changes nothing. */
  static void refused(int status, Supplier<MeetHouse> made, ToLongFunction<MeetHouse> asks) {
    refusedBy(MeetHouse.NONE, status, made, asks);
  }

  static void refusedFalse(int status, Supplier<MeetHouse> made, Predicate<MeetHouse> asks) {
    refusedBy(0, status, made, h -> asks.test(h) ? 1 : 0);
  }

  private static void refusedBy(long answer, int status, Supplier<MeetHouse> made, ToLongFunction<MeetHouse> asks) {
    String call = "refused call " + (asked - askedBefore) / 4;
    MeetHouse house = made.get();
    tellAnother(house, status);
    is(call, asks.applyAsLong(house), answer);
    is(call + ", its status()", house.status(), status);
    same(call + " changed", house, made.get());
    house = made.get();
    MeetHouse twin = made.get();
    asks.applyAsLong(house);
    house.undo();
    twin.undo();
    same(call + " and undo() changed", house, twin);
  }

  /** STATUS becomes another one than the one that is due, so that it can only come from the call. */
  private static void tellAnother(MeetHouse house, int status) {
    house.keeper(0, 0);
    if (status == 2) house.has(-1, 0);
  }

  private static void same(String what, MeetHouse house, MeetHouse twin) {
    String got = Look.at(house);
    String want = Look.at(twin);
    asked++;
    if (!got.equals(want)) fail(what + "\n  " + want + "\n  to\n  " + got);
  }

  static boolean anyWrong() {
    return wrong != 0;
  }

  static void end() {
    String of = cases > 0 ? cases + " cases, " : "";
    System.out.println(of + (wrong == 0 ? asked + " answers are as due" : wrong + " of " + asked + " answers are not as due"));
    if (wrong != 0 || asked == 0) System.exit(1);
  }
}
