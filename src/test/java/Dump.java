/** All that can be looked at but STATUS, SCRIPTS, the TAPE and how many ACTS can be UNDONE, as one text. */
final class Dump {
  private Dump() {
  }

  static String of(ClosedRooms x) {
    StringBuilder text = new StringBuilder();
    for (int i = 0; i < 4; i++) text.append(x.rule(i)).append(' ');
    for (int p = 0; p < 10; p++) {
      text.append("\npage ");
      for (int i = 0; i < 6; i++) text.append(x.page(p, i)).append(' ');
      for (int i = 0; i < 4; i++) text.append(x.version(p, i)).append(' ');
      text.append(x.waits(p)).append(' ');
      for (int i = -1; i < 14; i++) text.append(x.spell(p, i)).append(' ');
    }
    for (int r = 0; r < 4; r++) {
      text.append("\nroom ");
      for (int i = 0; i < 9; i++) text.append(Check.room(x, r, i)).append(' ');
      for (int i = 0; i < 8; i++) text.append(x.mapped(r, i)).append(' ');
      for (int i = 0; i < 4; i++) text.append(x.alike(r, i)).append(' ');
      text.append(x.leaks(r)).append(' ').append(x.lies(r));
    }
    for (int c = 0; c < 3; c++) {
      text.append("\ncore ");
      for (int i = 0; i < 5; i++) text.append(x.core(c, i)).append(' ');
      for (int i = 0; i < 3; i++) text.append(x.seen(c, i, 0)).append(' ').append(x.seen(c, i, 1)).append(' ');
      for (int i = 0; i < 4; i++) text.append(x.report(c, i)).append(' ');
    }
    for (int c = 0; c < 12; c++) {
      text.append("\ncopy ");
      for (int i = 0; i < 6; i++) text.append(x.copyOf(c, i)).append(' ');
      text.append(x.twins(c));
    }
    text.append("\nall ");
    for (int i = 0; i < 9; i++) text.append(x.all(i)).append(' ');
    text.append(x.old()).append(' ').append(x.victim()).append("\nlog ").append(x.count(3));
    for (int i = 0; i < x.count(3); i++) {
      for (int what = 0; what < 3; what++) text.append(' ').append(x.log(i, what));
    }
    return text.toString();
  }

  /** What the dump leaves out. */
  static String rest(ClosedRooms x) {
    StringBuilder text = new StringBuilder();
    for (int i = 0; i < 5; i++) text.append(x.count(i)).append(' ');
    for (int s = 0; s < 4; s++) {
      for (int i = 0; i < 12; i++) {
        for (int what = 0; what < 6; what++) text.append(x.step(s, i, what)).append(' ');
      }
      text.append(x.paper(s)).append(' ').append(x.run(s, 0)).append(' ').append(x.run(s, 1)).append('\n');
    }
    return text.append(x.fault(0)).append(' ').append(x.fault(1)).toString();
  }
}
