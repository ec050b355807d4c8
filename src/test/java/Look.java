/** All that can be seen of a house but its STATUS, in fewer calls than an object is made for. */
final class Look {
  private Look() {}

  static String at(MeetHouse x) {
    StringBuilder b = new StringBuilder();
    for (int w = 0; w < 5; w++) b.append(x.size(w)).append(' ');
    keepers(x, b.append("| keepers"));
    families(x, b.append(" | families"));
    plan(x, b.append(" | plan"));
    sheet(x, b.append(" | sheet"));
    places(x, b.append(" | case"));
    return b.toString();
  }

  private static void keepers(MeetHouse x, StringBuilder b) {
    for (int k = 0; k < x.size(0); k++) {
      b.append(' ').append(x.keeperOf(k, 0)).append('/').append(x.keeperOf(k, 1)).append('/').append(x.keeperOf(k, 2));
    }
  }

  /** The first and the last QUORUM of each: a family is never changed, but one may come or go. */
  private static void families(MeetHouse x, StringBuilder b) {
    for (int f = 0; f < x.size(1); f++) {
      int count = x.family(f, 1);
      b.append(' ').append(x.family(f, 0)).append('/').append(count).append('/').append(x.quorum(f, 0));
      if (count > 1) b.append('/').append(x.quorum(f, count - 1));
    }
  }

  private static void plan(MeetHouse x, StringBuilder b) {
    b.append(' ').append(x.load(0)).append(':');
    boolean more = true;
    for (int i = 0; more && i <= 120; i++) {
      int part = x.partOf(i);
      more = part != MeetHouse.NONE;
      if (more) b.append(' ').append(part);
    }
  }

  private static void sheet(MeetHouse x, StringBuilder b) {
    for (int k = 0; k < x.size(4) && k < 30; k++) b.append(' ').append(x.names(k));
  }

  private static void places(MeetHouse x, StringBuilder b) {
    for (int k = 0; k < 16; k++) {
      int sort = x.lies(k);
      b.append(' ').append(sort);
      boolean more = sort == 1 || sort == 2 || sort == 3;
      for (int i = 0; more && i <= 120; i++) {
        int taken = x.taken(k, sort, i);
        more = taken != MeetHouse.NONE && sort == 3;
        if (taken != MeetHouse.NONE) b.append(i == 0 ? ':' : ',').append(taken);
      }
    }
  }
}
