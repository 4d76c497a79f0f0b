/** What an object can be seen to be, as one text, in so few calls that an object can be told once within its 512. */
final class Dump {
  private Dump() {
  }

  /** All that can be looked at but STATUS, SCRIPTS, the TAPE, how many ACTS can be UNDONE and the midst of the LOG. */
  static String of(ClosedRooms x) {
    StringBuilder text = new StringBuilder();
    for (int i = 0; i < 4; i++) text.append(x.rule(i)).append(' ');
    for (int p = 0; p < x.rule(0); p++) page(x, p, text);
    for (int r = 0; r < 4; r++) room(x, r, text);
    for (int c = 0; c < x.rule(1); c++) core(x, c, text);
    for (int c = 0; c < 12; c++) {
      int serial = x.copyOf(c, 0);
      text.append("\ncopy ").append(serial).append(' ');
      if (serial == Check.H) continue;
      for (int i = 1; i < 6; i++) text.append(x.copyOf(c, i)).append(' ');
      text.append(x.twins(c));
    }
    text.append("\nall ");
    for (int i = 0; i < 9; i++) text.append(x.all(i)).append(' ');
    text.append(x.old()).append(' ').append(x.victim()).append("\nlog ").append(x.count(3));
    int logged = x.count(3);
    for (int i = 0; i < logged; i++) {
      for (int what = 0; (i < 4 || i == logged - 1) && what < 3; what++) text.append(' ').append(x.log(i, what));
    }
    return text.toString();
  }

  private static void page(ClosedRooms x, int p, StringBuilder text) {
    int kind = x.page(p, 0);
    text.append("\npage ").append(kind).append(' ').append(x.spell(p, -1)).append(' ');
    if (kind == 0) return;
    for (int i = 1; i < 6; i++) text.append(x.page(p, i)).append(' ');
    for (int i = 0; kind == 4 && i < 4; i++) text.append(x.version(p, i)).append(' ');
    text.append(x.waits(p)).append(' ');
  }

  private static void room(ClosedRooms x, int r, StringBuilder text) {
    int serial = Check.room(x, r, 0);
    text.append("\nroom ").append(serial).append(' ');
    if (serial == Check.NO_SUCH_ELEMENT) return;
    for (int i = 1; i < 9; i++) text.append(Check.room(x, r, i)).append(' ');
    for (int i = 0; i < Check.room(x, r, 1); i++) text.append(x.mapped(r, i)).append(' ');
    text.append(x.leaks(r)).append(' ').append(x.lies(r));
  }

  private static void core(ClosedRooms x, int c, StringBuilder text) {
    text.append("\ncore ");
    for (int i = 0; i < 5; i++) text.append(x.core(c, i)).append(' ');
    int seen = x.core(c, 4);
    for (int i = 0; i < seen; i++) text.append(x.seen(c, i, 0)).append(' ').append(x.seen(c, i, 1)).append(' ');
    text.append(x.report(c, 0)).append(' ').append(x.report(c, 3));
  }

  /** What the dump leaves out, but STATUS. */
  static String rest(ClosedRooms x) {
    StringBuilder text = new StringBuilder();
    for (int i = 0; i < 5; i++) text.append(x.count(i)).append(' ');
    for (int s = 0; s < x.count(1); s++) {
      for (int i = 0; x.step(s, i, 0) != Check.H; i++) {
        for (int what = 0; what < 6; what++) text.append(x.step(s, i, what)).append(' ');
      }
      text.append(x.paper(s)).append(' ').append(x.run(s, 0)).append(' ').append(x.run(s, 1)).append('\n');
    }
    return text.append(x.fault(0)).append(' ').append(x.fault(1)).toString();
  }

  /** All of it but STATUS; and, by ACTS, so that the object is used up then, what can't be looked at: VALUES, BLOCKED since when. */
  static String whole(ClosedRooms x) {
    StringBuilder text = new StringBuilder(of(x)).append('\n').append(rest(x)).append("\nhidden");
    int pages = x.rule(0);
    int[] empty = emptySlots(x, pages);
    int used = evictAll(x, pages, empty, 0, text);
    for (int c = 0; c < x.rule(1); c++) text.append(' ').append(x.leave(c));
    for (int p = 0; p < pages; p++) text.append(' ').append(x.block(p));
    for (int r = 0; r < 4; r++) text.append(' ').append(x.track(r));
    evictAll(x, pages, empty, used, text);
    for (int c = 0; c < 12 && x.all(3) != 0; c++) text.append(' ').append(x.change(c, 999));
    return text.toString();
  }

  /** Ten times a PAGE and a SLOT that is empty, of one PAGE ahead of others; fewer, if there are fewer. */
  private static int[] emptySlots(ClosedRooms x, int pages) {
    int[] found = new int[10];
    int n = 0;
    for (int p = 0; p < pages && n < 10; p++) {
      for (int slot = 0; slot < 4 && n < 10 && x.page(p, 0) == 4; slot++) {
        if (x.version(p, slot) == 0) found[n++] = 10 * p + slot;
      }
    }
    return java.util.Arrays.copyOf(found, n);
  }

  /** Tries each PAGE; how many of the empty SLOTS are used up then. */
  private static int evictAll(ClosedRooms x, int pages, int[] empty, int used, StringBuilder text) {
    for (int p = 0; p < pages && used < empty.length; p++) {
      int answer = x.evict(p, empty[used] / 10, empty[used] % 10);
      text.append(' ').append(answer);
      if (answer >= 0) used++;
    }
    return used;
  }
}
