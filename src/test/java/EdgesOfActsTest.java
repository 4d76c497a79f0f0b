/** Promises 14 to 23, edge by edge: the first and the last that is taken, the first beyond each, every way to be refused. */
public final class EdgesOfActsTest {
  private static final Check check = new Check("EdgesOfActsTest");
  private static final int N = Check.N;
  private static final int H = Check.H;
  private static final Edge.Make NEW = Edge.NEW;
  private static final Edge.Make HOUSE = Edge.HOUSE;
  private static final Edge.Make SITE = Edge.SITE;
  private static final Edge.Make INSIDE = Edge.INSIDE;
  private static final Edge.Make AWAY = Edge.AWAY;
  private static final Edge.Make TEN = Edge.machine("pages 10;cores 3");
  private static final Edge.Make FOUR_ROOMS = Edge.after(TEN, Edge.times(4, x -> x.create(1)));
  /** Ten PAGES, ROOM 0 (SIZE 2), none FREE. */
  private static final Edge.Make FULL = Edge.after(TEN, x -> x.create(2), Edge.times(9, x -> x.slots()));
  /** The house, its ENTRY left in haste by CORE 0, which had 77 in hand. */
  private static final Edge.Make HASTE = Edge.after(HOUSE, x -> x.tell(0, 77), x -> x.enter(0, 0, 0), x -> x.trap(0));
  /** The house, and ROOM 1 SEALED with an ENTRY (PAGE 6) and a PLAIN page (PAGE 7). */
  private static final Edge.Make TWO_ROOMS = Edge.after(HOUSE, x -> x.create(2), x -> x.add(1, 0, 1, 7, 5),
      x -> x.add(1, 1, 0, 7, 6), x -> x.seal(1, Check.room(x, 1, 3)));
  /** ROOM 1, SEALED, AWAY; its MAP tells PAGE 2, the idle ENTRY of ROOM 0, for ADDRESS 0. */
  private static final Edge.Make SEALED_AWAY = Edge.after(HOUSE, x -> x.create(2), x -> x.seal(1, 9), x -> x.map(1, 0, 2),
      x -> x.evict(5, 1, 3));

  public static void main(String[] args) {
    promise14CreateTakes();
    promise14CreateRefused();
    promise14CreateOfSeveralTheFirst();
    promise14NothingOfAnother();
    promise15Slots();
    promise16AddTakes();
    promise16AddOutOfBounds();
    promise16AddRefused();
    promise16AddOfSeveralTheFirst();
    promise16AddNothingOfAnother();
    promise16MeasureGoesRound();
    promise17ExtendTakes();
    promise17ExtendRefused();
    promise17ExtendAnswersAnyInt();
    promise18Seal();
    promise18SealTakesAnyInt();
    promise19EnterTakes();
    promise19EnterRefused();
    promise19EnterFound();
    promise19EnterOfSeveralTheFirst();
    promise20Leave();
    promise21Trap();
    promise22ResumeTakes();
    promise22ResumeRefused();
    promise22ResumeOfSeveralTheFirst();
    promise23TouchTakes();
    promise23TouchModulo();
    promise23TouchRefused();
    promise23TouchFound();
    promise23TouchByThePageSeen();
    promise23TouchHold();
    promise23TouchOfSeveralTheFirst();
    check.finish();
  }

  private static void promise14CreateTakes() {
    Edge e = new Edge(check, "14 (create)");
    for (int size = 1; size <= 8; size++) {
      int one = size;
      e.done("SIZE " + one + " of 1 .. 8", TEN, x -> x.create(one), 0, 0, one);
      ClosedRooms x = Edge.after(TEN, y -> y.create(one)).make();
      int[] due = {1, one, 1, 7 + one, 0, 0, 0, 0, 0};
      for (int what = 0; what < 9; what++) e.is("a ROOM of SIZE " + one + ", what " + what, Check.room(x, 0, what), due[what]);
      e.is("the last ADDRESS is there", x.map(0, one - 1, 9), N);
      e.is("the first beyond SIZE is not", x.map(0, one, 9), H);
    }
    e.done("the fourth ROOM", Edge.after(TEN, Edge.times(3, x -> x.create(1))), x -> x.create(8), 3, 0, 8);
    e.done("the last FREE PAGE", Edge.after(TEN, Edge.times(9, x -> x.slots())), x -> x.create(8), 0, 0, 8);
    e.done("the last FREE PAGE of three", Edge.after(Edge.machine("pages 3"), x -> x.slots(), x -> x.slots()), x -> x.create(1), 0, 0, 1);
    ClosedRooms x = Edge.after(FOUR_ROOMS, y -> y.remove(0), y -> y.remove(2)).make();
    e.is("the lowest ROOM that is not there", x.create(2), 0);
    e.is("the lowest FREE PAGE is its ROOT", x.page(0, 0) * 10 + x.page(0, 1), 10);
    e.is("SERIALS go on", Check.room(x, 0, 0), 5);
    e.is("then the next lowest", x.create(3), 2);
    e.is("its ROOT", x.page(2, 0) * 10 + x.page(2, 1), 12);
  }

  private static void promise14CreateRefused() {
    Edge e = new Edge(check, "14 (create)");
    e.refused("no MACHINE", NEW, x -> x.create(1), N, 0);
    e.refused("no MACHINE", NEW, x -> x.create(8), N, 0);
    e.refused("SIZE 0, the first below", TEN, x -> x.create(0), N, 1);
    e.refused("SIZE 9, the first above", TEN, x -> x.create(9), N, 1);
    for (int far : Edge.FAR) e.refused("SIZE " + far, TEN, x -> x.create(far), N, 1);
    e.refused("four ROOMS, though PAGES are FREE", FOUR_ROOMS, x -> x.create(1), N, 3);
    e.refused("no FREE PAGE, though a ROOM is not there", FULL, x -> x.create(1), N, 3);
    e.refused("no FREE PAGE of three", Edge.after(Edge.machine("pages 3"), Edge.times(3, x -> x.create(1))), x -> x.create(1), N, 3);
    e.refused("four ROOMS, one AWAY", Edge.after(FOUR_ROOMS, x -> x.slots(), x -> x.evict(0, 4, 0)), x -> x.create(1), N, 3);
  }

  private static void promise14CreateOfSeveralTheFirst() {
    Edge e = new Edge(check, "14 (create), of several the first");
    e.refused("no MACHINE, SIZE 0", NEW, x -> x.create(0), N, 0);
    e.refused("no MACHINE, SIZE 9", NEW, x -> x.create(9), N, 0);
    e.refused("SIZE 0, four ROOMS", FOUR_ROOMS, x -> x.create(0), N, 1);
    e.refused("SIZE 9, no FREE PAGE", FULL, x -> x.create(9), N, 1);
  }

  /** Where another ROOM, another page was, nothing of it is left. */
  private static void promise14NothingOfAnother() {
    Edge e = new Edge(check, "14 (create)");
    Edge.Make gone = Edge.after(HOUSE, x -> x.block(3), Edge.times(3, x -> x.track(0)), x -> x.evict(3, 1, 0), x -> x.remove(2),
        x -> x.remove(4), x -> x.remove(0));
    ClosedRooms x = Edge.after(gone, y -> y.create(4)).make();
    int[] due = {2, 4, 1, 11, 0, 0, 0, 0, 0};
    for (int what = 0; what < 9; what++) e.is("a ROOM where another was, what " + what, Check.room(x, 0, what), due[what]);
    for (int i = 0; i < 4; i++) e.is("its MAP tells none", x.mapped(0, i), N);
    x = Edge.after(HOUSE, y -> y.block(3), y -> y.remove(3), y -> y.create(1)).make();
    int[] root = {1, 1, N, 0, 0, N};
    for (int what = 0; what < 6; what++) e.is("a ROOT where a PLAIN page was, BLOCKED, what " + what, x.page(3, what), root[what]);
    x.evict(3, 1, 0);
    e.is("its VALUE is 0", x.change(0, 9), 0);
    x = Edge.after(HASTE, y -> y.block(2), y -> y.remove(2), y -> y.slots()).make();
    int[] slots = {4, N, N, N, N, N};
    for (int what = 0; what < 6; what++) e.is("SLOTS where an ENTRY was, what " + what, x.page(2, what), slots[what]);
    e.is("no PAGE is BLOCKED", x.all(7), 0);
  }

  private static void promise15Slots() {
    Edge e = new Edge(check, "15 (slots)");
    e.done("the first PAGE", TEN, x -> x.slots(), 0, 1, N);
    e.done("the last FREE PAGE of ten", Edge.after(TEN, Edge.times(9, x -> x.slots())), x -> x.slots(), 9, 1, N);
    e.done("the last FREE PAGE of three", Edge.after(Edge.machine("pages 3"), Edge.times(2, x -> x.slots())), x -> x.slots(), 2, 1, N);
    e.done("the lowest FREE PAGE", Edge.after(FULL, x -> x.remove(7), x -> x.remove(3)), x -> x.slots(), 3, 1, N);
    e.refused("no MACHINE", NEW, x -> x.slots(), N, 0);
    e.refused("no FREE PAGE", FULL, x -> x.slots(), N, 3);
    e.refused("no FREE PAGE of three", Edge.after(Edge.machine("pages 3"), Edge.times(3, x -> x.slots())), x -> x.slots(), N, 3);
    ClosedRooms x = Edge.after(TEN, y -> y.slots()).make();
    for (int slot = 0; slot < 4; slot++) e.is("SLOT " + slot + " is empty", x.version(0, slot), 0);
    e.is("they have no ROOM", x.page(0, 1), N);
  }

  private static void promise16AddTakes() {
    Edge e = new Edge(check, "16 (add)");
    Edge.Make eight = Edge.after(TEN, x -> x.create(8));
    e.done("ADDRESS 0, the first", eight, x -> x.add(0, 0, 0, 1, 1), 1, 2, 0);
    e.done("ADDRESS 7, the last of eight", eight, x -> x.add(0, 7, 0, 1, 1), 1, 2, 0);
    e.done("KIND 1, the last", eight, x -> x.add(0, 0, 1, 1, 1), 1, 2, 0);
    for (int rights = 1; rights <= 7; rights++) {
      int one = rights;
      e.done("RIGHTS " + one + " of 1 .. 7", eight, x -> x.add(0, 0, 0, one, 1), 1, 2, 0);
    }
    e.done("VALUE 0, the least", eight, x -> x.add(0, 0, 0, 1, 0), 1, 2, 0);
    e.done("VALUE 999, the most", eight, x -> x.add(0, 0, 0, 1, 999), 1, 2, 0);
    e.done("ROOM 3, the last", FOUR_ROOMS, x -> x.add(3, 0, 0, 1, 1), 4, 2, 3);
    e.done("the last ADDRESS of SIZE 1", FOUR_ROOMS, x -> x.add(0, 0, 0, 1, 1), 4, 2, 0);
    e.done("the last FREE PAGE", Edge.after(TEN, x -> x.create(1), Edge.times(8, x -> x.slots())), x -> x.add(0, 0, 1, 7, 999), 9, 2, 0);
    e.done("the lowest FREE PAGE", Edge.after(FULL, x -> x.remove(8), x -> x.remove(4)), x -> x.add(0, 0, 0, 1, 1), 4, 2, 0);
    e.done("an ADDRESS whose page was REMOVED", Edge.after(SITE, x -> x.remove(3)), x -> x.add(0, 1, 1, 2, 3), 3, 2, 0);
    e.done("an ADDRESS whose MAP was told otherwise", Edge.after(SITE, x -> x.map(0, 3, 0)), x -> x.add(0, 3, 0, 1, 1), 5, 2, 0);
    ClosedRooms x = Edge.after(eight, y -> y.add(0, 7, 1, 7, 999), y -> y.map(0, 0, 9), y -> y.add(0, 0, 0, 1, 0)).make();
    e.is("KIND 1 is an ENTRY", x.page(1, 0), 3);
    e.is("that is idle", x.page(1, 5), 0);
    e.is("KIND 0 is PLAIN", x.page(2, 0), 2);
    e.is("ADD tells MAP the PAGE", x.mapped(0, 7) * 10 + x.mapped(0, 0), 12);
    e.is("not BLOCKED", x.page(1, 4) + x.page(2, 4), 0);
    e.is("MEASURE by ADDRESS, KIND, RIGHTS", Check.room(x, 0, 3), 31 * (31 * 15 + 64 * 7 + 8 + 7) + 1);
  }

  private static void promise16AddOutOfBounds() {
    Edge e = new Edge(check, "16 (add)");
    for (int far : Edge.FAR) {
      e.refused("ROOM " + far, SITE, x -> x.add(far, 3, 0, 1, 1), N, 0);
      e.refused("ADDRESS " + far, SITE, x -> x.add(0, far, 0, 1, 1), N, 1);
      e.refused("KIND " + far, SITE, x -> x.add(0, 3, far, 1, 1), N, 1);
      e.refused("RIGHTS " + far, SITE, x -> x.add(0, 3, 0, far, 1), N, 1);
      e.refused("VALUE " + far, SITE, x -> x.add(0, 3, 0, 1, far), N, 1);
    }
    e.refused("no such ROOM: 1 is not there", SITE, x -> x.add(1, 0, 0, 1, 1), N, 0);
    e.refused("no such ROOM: 4", FOUR_ROOMS, x -> x.add(4, 0, 0, 1, 1), N, 0);
    e.refused("no such ROOM: one that was", Edge.after(FOUR_ROOMS, x -> x.remove(2)), x -> x.add(2, 0, 0, 1, 1), N, 0);
    e.refused("no MACHINE", NEW, x -> x.add(0, 0, 0, 1, 1), N, 0);
    e.refused("ADDRESS 4 of SIZE 4", SITE, x -> x.add(0, 4, 0, 1, 1), N, 1);
    e.refused("ADDRESS 1 of SIZE 1", FOUR_ROOMS, x -> x.add(0, 1, 0, 1, 1), N, 1);
    e.refused("ADDRESS 8 of SIZE 8", Edge.after(TEN, x -> x.create(8)), x -> x.add(0, 8, 0, 1, 1), N, 1);
    e.refused("KIND 2", SITE, x -> x.add(0, 3, 2, 1, 1), N, 1);
    e.refused("RIGHTS 0", SITE, x -> x.add(0, 3, 0, 0, 1), N, 1);
    e.refused("RIGHTS 8", SITE, x -> x.add(0, 3, 0, 8, 1), N, 1);
    e.refused("VALUE -1", SITE, x -> x.add(0, 3, 0, 1, -1), N, 1);
    e.refused("VALUE 1000", SITE, x -> x.add(0, 3, 0, 1, 1000), N, 1);
  }

  private static void promise16AddRefused() {
    Edge e = new Edge(check, "16 (add)");
    e.refused("it is not BUILT", HOUSE, x -> x.add(0, 3, 0, 1, 1), N, 2);
    e.refused("AWAY", AWAY, x -> x.add(1, 0, 0, 1, 1), N, 2);
    e.done("no more AWAY", Edge.after(AWAY, x -> x.load(0, 1, 3)), x -> x.add(1, 0, 0, 1, 1), 6, 2, 1);
    e.refused("the ADDRESS has a page here, PLAIN", SITE, x -> x.add(0, 1, 0, 3, 50), N, 2);
    e.refused("the ADDRESS has a page here, an ENTRY", SITE, x -> x.add(0, 0, 1, 4, 11), N, 2);
    e.refused("the ADDRESS has a page here, whatever MAP tells", Edge.after(SITE, x -> x.map(0, 1, N)), x -> x.add(0, 1, 0, 1, 1), N, 2);
    Edge.Make out = Edge.after(SITE, x -> x.block(3), x -> x.track(0), x -> x.evict(3, 1, 0));
    e.refused("the ADDRESS has a page out", out, x -> x.add(0, 1, 0, 1, 1), N, 2);
    e.refused("the ADDRESS has a page out, its COPY dropped", Edge.after(out, x -> x.drop(0)), x -> x.add(0, 1, 0, 1, 1), N, 2);
    e.refused("no FREE PAGE", FULL, x -> x.add(0, 0, 0, 1, 1), N, 3);
    e.refused("no FREE PAGE", FULL, x -> x.add(0, 1, 1, 7, 999), N, 3);
  }

  private static void promise16AddOfSeveralTheFirst() {
    Edge e = new Edge(check, "16 (add), of several the first");
    e.refused("no such ROOM, ADDRESS", SITE, x -> x.add(1, 9, 9, 9, -1), N, 0);
    e.refused("no such ROOM, no FREE PAGE", FULL, x -> x.add(1, 0, 0, 1, 1), N, 0);
    e.refused("ADDRESS, it is not BUILT", HOUSE, x -> x.add(0, 4, 0, 1, 1), N, 1);
    e.refused("KIND, it is not BUILT", HOUSE, x -> x.add(0, 3, 2, 1, 1), N, 1);
    e.refused("RIGHTS, AWAY", AWAY, x -> x.add(1, 0, 0, 0, 1), N, 1);
    e.refused("VALUE, the ADDRESS has a page", SITE, x -> x.add(0, 1, 0, 1, 1000), N, 1);
    e.refused("RIGHTS, no FREE PAGE", FULL, x -> x.add(0, 0, 0, 8, 1), N, 1);
    e.refused("it is not BUILT, no FREE PAGE", Edge.after(HOUSE, Edge.times(3, x -> x.slots())), x -> x.add(0, 3, 0, 1, 1), N, 2);
    e.refused("AWAY, no FREE PAGE", Edge.after(AWAY, Edge.times(3, x -> x.slots())), x -> x.add(1, 0, 0, 1, 1), N, 2);
    e.refused("the ADDRESS has a page, no FREE PAGE", Edge.after(SITE, Edge.times(3, x -> x.slots())), x -> x.add(0, 1, 0, 1, 1), N, 2);
  }

  private static void promise16AddNothingOfAnother() {
    Edge e = new Edge(check, "16 (add)");
    Edge.Make site = Edge.after(HASTE, x -> x.create(2), x -> x.block(2), x -> x.remove(2));
    ClosedRooms x = Edge.after(site, y -> y.add(1, 1, 1, 2, 0)).make();
    int[] entry = {3, 1, 1, 2, 0, 0};
    for (int what = 0; what < 6; what++) e.is("an ENTRY where one left in haste was, BLOCKED, what " + what, x.page(2, what), entry[what]);
    x = Edge.after(site, y -> y.add(1, 0, 0, 4, 6)).make();
    int[] plain = {2, 1, 0, 4, 0, N};
    for (int what = 0; what < 6; what++) e.is("a PLAIN page where it was, what " + what, x.page(2, what), plain[what]);
    x.block(2);
    e.refused("BLOCKED in the EPOCH of its own ROOM", Edge.after(HOUSE, y -> y.block(3), y -> y.remove(3), y -> y.create(2),
        y -> y.track(1), y -> y.slots(), y -> y.add(1, 0, 0, 1, 1), y -> y.block(6)), y -> y.evict(6, 1, 0), N, 2);
  }

  /** 31 times itself .. passes the end of an int. */
  private static void promise16MeasureGoesRound() {
    Edge e = new Edge(check, "16 (add)");
    ClosedRooms x = Edge.after(TEN, y -> y.create(8)).make();
    int measure = 15;
    boolean below = false;
    for (int i = 0; i < 60; i++) {
      x.add(0, 7, 1, 7, 999);
      x.remove(1);
      measure = 31 * measure + 64 * 7 + 8 + 7;
      below |= measure < 0;
      e.is("MEASURE going round, " + i, Check.room(x, 0, 3), measure);
    }
    e.is("it went round", below, true);
  }

  private static void promise17ExtendTakes() {
    Edge e = new Edge(check, "17 (extend)");
    int measure = Check.room(SITE.make(), 0, 3);
    e.done("ADDRESS 0", SITE, x -> x.extend(0, 0), 31 * measure + 1011, 3, 0);
    e.done("ADDRESS 2", SITE, x -> x.extend(0, 2), 31 * measure + 1060, 3, 0);
    e.done("BLOCKED", Edge.after(SITE, x -> x.block(4)), x -> x.extend(0, 2), 31 * measure + 1060, 3, 0);
    e.done("whatever MAP tells", Edge.after(SITE, x -> x.map(0, 2, 3)), x -> x.extend(0, 2), 31 * measure + 1060, 3, 0);
    Edge.Make first = Edge.after(TEN, x -> x.slots(), x -> x.create(2), x -> x.remove(0), x -> x.add(0, 1, 0, 1, 4));
    e.done("PAGE 0, the first", first, x -> x.extend(0, 1), 31 * (31 * 9 + 65) + 1004, 3, 0);
    Edge.Make tenth = Edge.after(TEN, x -> x.create(2), Edge.times(8, x -> x.slots()), x -> x.add(0, 1, 0, 1, 4));
    e.done("PAGE 9, the last", tenth, x -> x.extend(0, 1), 31 * (31 * 9 + 65) + 1004, 3, 0);
    e.done("of its own ROOM", Edge.after(SITE, x -> x.create(3), x -> x.add(1, 1, 0, 1, 7)), x -> x.extend(1, 1), 31 * (31 * 10 + 65) + 1007, 3, 1);
    e.done("twice", Edge.after(SITE, x -> x.extend(0, 0)), x -> x.extend(0, 0), 31 * (31 * measure + 1011) + 1011, 3, 0);
    Edge.Make eight = Edge.after(TEN, x -> x.create(8), x -> x.add(0, 7, 0, 1, 0), x -> x.add(0, 0, 0, 1, 999));
    int of = Check.room(eight.make(), 0, 3);
    e.done("ADDRESS 7, the last of eight; VALUE 0", eight, x -> x.extend(0, 7), 31 * of + 1000, 3, 0);
    e.done("VALUE 999", eight, x -> x.extend(0, 0), 31 * of + 1999, 3, 0);
    ClosedRooms x = Edge.after(eight, y -> y.extend(0, 0)).make();
    for (int i = 0; i < 30; i++) x.extend(0, 0);
    int round = of;
    for (int i = 0; i < 31; i++) round = 31 * round + 1999;
    e.is("MEASURE goes round", Check.room(x, 0, 3), round);
  }

  private static void promise17ExtendRefused() {
    Edge e = new Edge(check, "17 (extend)");
    e.refused("no MACHINE", NEW, x -> x.extend(0, 0), H, 0);
    for (int far : Edge.FAR) {
      e.refused("no such ROOM: " + far, SITE, x -> x.extend(far, 1), H, 0);
      e.refused("ADDRESS " + far, SITE, x -> x.extend(0, far), H, 1);
    }
    e.refused("no such ROOM: 1", SITE, x -> x.extend(1, 0), H, 0);
    e.refused("no such ROOM: 4", FOUR_ROOMS, x -> x.extend(4, 0), H, 0);
    e.refused("ADDRESS 4 of SIZE 4", SITE, x -> x.extend(0, 4), H, 1);
    e.refused("ADDRESS 8 of SIZE 8", Edge.after(TEN, x -> x.create(8)), x -> x.extend(0, 8), H, 1);
    e.refused("it is not BUILT", HOUSE, x -> x.extend(0, 1), H, 2);
    e.refused("AWAY", AWAY, x -> x.extend(1, 0), H, 2);
    e.refused("its page is none", SITE, x -> x.extend(0, 3), H, 2);
    e.refused("its page is none, whatever MAP tells", Edge.after(SITE, x -> x.map(0, 3, 4)), x -> x.extend(0, 3), H, 2);
    e.refused("its page is out", Edge.after(SITE, x -> x.block(3), x -> x.track(0), x -> x.evict(3, 1, 0)), x -> x.extend(0, 1), H, 2);
    e.refused("its page is REMOVED", Edge.after(SITE, x -> x.remove(3)), x -> x.extend(0, 1), H, 2);
    e.refused("of several the first: no such ROOM, ADDRESS", SITE, x -> x.extend(1, 9), H, 0);
    e.refused("of several the first: ADDRESS, not BUILT", HOUSE, x -> x.extend(0, 4), H, 1);
    e.refused("of several the first: ADDRESS, AWAY", AWAY, x -> x.extend(1, 2), H, 1);
  }

  /** A site of eight PLAIN pages, whose VALUES lead from its MEASURE by extend of 0, 1 .. 6 to this one. */
  private static Edge.Make siteThatComesTo(int measure) {
    int now = 15;
    for (int i = 0; i < 7; i++) now = 31 * now + 64 * i + 1;
    int thousands = 0;
    for (int i = 0; i < 7; i++) {
      now = 31 * now;
      thousands = 31 * thousands + 1000;
    }
    long rest = (measure - now - thousands) & 0xffffffffL;
    int[] values = new int[7];
    for (int i = 6; i >= 0; i--) {
      values[i] = (int) (rest % 31);
      rest /= 31;
    }
    return () -> {
      ClosedRooms x = Edge.after(TEN, y -> y.create(8)).make();
      for (int i = 0; i < 7; i++) x.add(0, i, 0, 1, values[i]);
      for (int i = 0; i < 6; i++) x.extend(0, i);
      return x;
    };
  }

  /** An answer that looks like one of refused calls is none. */
  private static void promise17ExtendAnswersAnyInt() {
    Edge e = new Edge(check, "17 (extend)");
    for (int measure : new int[] {H, N, 0, Check.MIN, Check.MAX}) {
      e.done("MEASURE becomes " + measure, siteThatComesTo(measure), x -> x.extend(0, 6), measure, 3, 0);
    }
  }

  private static void promise18Seal() {
    Edge e = new Edge(check, "18 (seal)");
    int measure = Check.room(SITE.make(), 0, 3);
    e.done("MEASURE is as told", SITE, x -> x.seal(0, measure), 1, 4, 0);
    e.done("an empty ROOM, the last one", FOUR_ROOMS, x -> x.seal(3, 8), 4, 4, 3);
    e.refused("no MACHINE", NEW, x -> x.seal(0, 0), N, 0);
    for (int far : Edge.FAR) {
      e.refused("no such ROOM: " + far, SITE, x -> x.seal(far, measure), N, 0);
      e.refused("MEASURE is another than " + far, SITE, x -> x.seal(0, far), N, 4);
    }
    e.refused("no such ROOM: 1", SITE, x -> x.seal(1, measure), N, 0);
    e.refused("no such ROOM: 4", FOUR_ROOMS, x -> x.seal(4, 8), N, 0);
    e.refused("it is not BUILT", HOUSE, x -> x.seal(0, measure), N, 2);
    e.refused("AWAY", AWAY, x -> x.seal(1, 9), N, 2);
    e.refused("MEASURE is one more", SITE, x -> x.seal(0, measure - 1), N, 4);
    e.refused("MEASURE is one less", SITE, x -> x.seal(0, measure + 1), N, 4);
    e.refused("of several the first: not BUILT, another MEASURE", HOUSE, x -> x.seal(0, measure + 1), N, 2);
    e.refused("of several the first: AWAY, another MEASURE", AWAY, x -> x.seal(1, 8), N, 2);
    e.refused("of several the first: no such ROOM, another MEASURE", AWAY, x -> x.seal(2, 8), N, 0);
  }

  private static void promise18SealTakesAnyInt() {
    Edge e = new Edge(check, "18 (seal)");
    for (int measure : new int[] {H, N, 0, Check.MIN, Check.MAX}) {
      e.done("MEASURE " + measure, Edge.after(siteThatComesTo(measure), x -> x.extend(0, 6)), x -> x.seal(0, measure), 1, 4, 0);
    }
  }

  private static void promise19EnterTakes() {
    Edge e = new Edge(check, "19 (enter)");
    e.done("CORE 0, the first", HOUSE, x -> x.enter(0, 0, 0), 2, 5, 0);
    e.done("CORE 2, the last of three", HOUSE, x -> x.enter(2, 0, 0), 2, 5, 2);
    e.done("CORE 0 of one", siteOf("cores 1"), x -> x.enter(0, 3, 0), 7, 5, 0);
    e.done("ROOM 3, the last", siteOf("cores 2"), x -> x.enter(1, 3, 0), 7, 5, 1);
    e.done("ADDRESS 7, the last of eight", siteOf("cores 2"), x -> x.enter(1, 3, 7), 8, 5, 1);
    e.done("as MAP tells it again", Edge.after(HOUSE, x -> x.map(0, 0, N), x -> x.map(0, 0, 2)), x -> x.enter(0, 0, 0), 2, 5, 0);
    e.done("an ENTRY that has been left", Edge.after(INSIDE, x -> x.leave(0)), x -> x.enter(1, 0, 0), 2, 5, 1);
    ClosedRooms x = Edge.after(HOUSE, y -> y.track(0), y -> y.tell(1, 8), y -> y.enter(1, 0, 0)).make();
    int[] due = {8, 0, 2, 1, 0};
    for (int what = 0; what < 5; what++) e.is("inside since the EPOCH of the ROOM, what " + what, x.core(1, what), due[what]);
    e.is("the ENTRY is taken", x.page(2, 5), 1);
  }

  /** Four ROOMS, the last (SIZE 8) SEALED with ENTRIES at 0 (PAGE 7) and at 7 (PAGE 8), SLOTS as PAGES 0 to 2. */
  private static Edge.Make siteOf(String rules) {
    return Edge.after(Edge.machine("pages 10;" + rules), Edge.times(3, x -> x.slots()), Edge.times(3, x -> x.create(1)),
        x -> x.create(8), x -> x.add(3, 0, 1, 1, 1), x -> x.add(3, 7, 1, 1, 1), x -> x.seal(3, Check.room(x, 3, 3)));
  }

  private static void promise19EnterRefused() {
    Edge e = new Edge(check, "19 (enter)");
    e.refused("no MACHINE", NEW, x -> x.enter(0, 0, 0), N, 0);
    for (int far : Edge.FAR) {
      e.refused("no such CORE: " + far, HOUSE, x -> x.enter(far, 0, 0), N, 0);
      e.refused("no such ROOM: " + far, HOUSE, x -> x.enter(0, far, 0), N, 0);
      e.refused("ADDRESS " + far, HOUSE, x -> x.enter(0, 0, far), N, 1);
    }
    e.refused("no such CORE: 3 of three", HOUSE, x -> x.enter(3, 0, 0), N, 0);
    e.refused("no such CORE: 1 of one", siteOf("cores 1"), x -> x.enter(1, 3, 0), N, 0);
    e.refused("no such CORE: 2 of two", siteOf("cores 2"), x -> x.enter(2, 3, 0), N, 0);
    e.refused("no such ROOM: 1", HOUSE, x -> x.enter(0, 1, 0), N, 0);
    e.refused("no such ROOM: 4", siteOf("cores 1"), x -> x.enter(0, 4, 0), N, 0);
    e.refused("ADDRESS 4 of SIZE 4", HOUSE, x -> x.enter(0, 0, 4), N, 1);
    e.refused("ADDRESS 8 of SIZE 8", siteOf("cores 1"), x -> x.enter(0, 3, 8), N, 1);
    e.refused("the CORE is inside", INSIDE, x -> x.enter(0, 0, 0), N, 2);
    e.refused("the CORE is inside another ROOM", Edge.after(TWO_ROOMS, x -> x.enter(0, 0, 0)), x -> x.enter(0, 1, 0), N, 2);
    e.refused("the ROOM is not SEALED", SITE, x -> x.enter(0, 0, 0), N, 2);
    e.refused("AWAY", SEALED_AWAY, x -> x.enter(0, 1, 0), N, 2);
    e.refused("the page is no ENTRY", HOUSE, x -> x.enter(0, 0, 1), N, 2);
    e.refused("the ENTRY is taken", INSIDE, x -> x.enter(1, 0, 0), N, 2);
    e.refused("the ENTRY is left in haste", HASTE, x -> x.enter(1, 0, 0), N, 2);
    e.refused("the ENTRY is left in haste, by itself", HASTE, x -> x.enter(0, 0, 0), N, 2);
  }

  private static void promise19EnterFound() {
    Edge e = new Edge(check, "19 (enter), FOUND");
    e.refused("MAP tells none", HOUSE, x -> x.enter(0, 0, 3), N, 4);
    e.refused("MAP is told none", Edge.after(HOUSE, x -> x.map(0, 0, N)), x -> x.enter(0, 0, 0), N, 4);
    e.refused("MAP tells a FREE PAGE", Edge.after(HOUSE, x -> x.map(0, 0, 7)), x -> x.enter(0, 0, 0), N, 4);
    e.refused("MAP tells the ROOT", Edge.after(HOUSE, x -> x.map(0, 0, 0)), x -> x.enter(0, 0, 0), N, 4);
    e.refused("MAP tells SLOTS", Edge.after(HOUSE, x -> x.map(0, 0, 1)), x -> x.enter(0, 0, 0), N, 4);
    e.refused("MAP tells a page of another ADDRESS", Edge.after(HOUSE, x -> x.map(0, 0, 3)), x -> x.enter(0, 0, 0), N, 4);
    e.refused("MAP tells the ENTRY of another ADDRESS", Edge.after(HOUSE, x -> x.map(0, 3, 2)), x -> x.enter(0, 0, 3), N, 4);
    e.refused("MAP tells the ENTRY of another ROOM", Edge.after(TWO_ROOMS, x -> x.map(0, 0, 6)), x -> x.enter(0, 0, 0), N, 4);
    e.refused("its page is out", Edge.after(HOUSE, x -> x.block(2), x -> x.track(0), x -> x.evict(2, 1, 0)), x -> x.enter(0, 0, 0), N, 4);
    e.refused("its page is REMOVED", Edge.after(HOUSE, x -> x.remove(2)), x -> x.enter(0, 0, 0), N, 4);
    e.refused("BLOCKED", Edge.after(HOUSE, x -> x.block(2)), x -> x.enter(0, 0, 0), N, 4);
    e.refused("BLOCKED in an EPOCH ahead", Edge.after(HOUSE, x -> x.block(2), x -> x.track(0)), x -> x.enter(0, 0, 0), N, 4);
  }

  private static void promise19EnterOfSeveralTheFirst() {
    Edge e = new Edge(check, "19 (enter), of several the first");
    e.refused("no such CORE, ADDRESS", HOUSE, x -> x.enter(3, 0, 4), N, 0);
    e.refused("no such ROOM, ADDRESS", HOUSE, x -> x.enter(0, 1, 8), N, 0);
    e.refused("no such ROOM, the CORE is inside", INSIDE, x -> x.enter(0, 1, 0), N, 0);
    e.refused("ADDRESS, the CORE is inside", INSIDE, x -> x.enter(0, 0, 4), N, 1);
    e.refused("ADDRESS, the ROOM is not SEALED", SITE, x -> x.enter(0, 0, 4), N, 1);
    e.refused("ADDRESS, AWAY", SEALED_AWAY, x -> x.enter(0, 1, 2), N, 1);
    e.refused("the CORE is inside, FOUND", INSIDE, x -> x.enter(0, 0, 3), N, 2);
    e.refused("the ROOM is not SEALED, FOUND", SITE, x -> x.enter(0, 0, 3), N, 2);
    e.refused("AWAY, FOUND", SEALED_AWAY, x -> x.enter(0, 1, 1), N, 2);
    e.refused("no ENTRY, BLOCKED", Edge.after(HOUSE, x -> x.block(3)), x -> x.enter(0, 0, 1), N, 2);
    e.refused("taken, BLOCKED", Edge.after(INSIDE, x -> x.block(2)), x -> x.enter(1, 0, 0), N, 2);
    e.refused("left in haste, BLOCKED", Edge.after(HASTE, x -> x.block(2)), x -> x.enter(1, 0, 0), N, 2);
  }

  private static void promise20Leave() {
    Edge e = new Edge(check, "20 (leave)");
    e.done("CORE 0", INSIDE, x -> x.leave(0), 0, 6, 0);
    e.done("CORE 2, REGISTER 999", Edge.after(HOUSE, x -> x.tell(2, 999), x -> x.enter(2, 0, 0)), x -> x.leave(2), 999, 6, 2);
    e.done("by an ENTRY that is BLOCKED", Edge.after(INSIDE, x -> x.block(2)), x -> x.leave(0), 0, 6, 0);
    e.done("though MAP tells none", Edge.after(INSIDE, x -> x.map(0, 0, N)), x -> x.leave(0), 0, 6, 0);
    e.refused("no MACHINE", NEW, x -> x.leave(0), N, 0);
    for (int far : Edge.FAR) e.refused("no such CORE: " + far, INSIDE, x -> x.leave(far), N, 0);
    e.refused("no such CORE: 3 of three", INSIDE, x -> x.leave(3), N, 0);
    e.refused("no such CORE: 1 of one", siteOf("cores 1"), x -> x.leave(1), N, 0);
    e.refused("it is outside", INSIDE, x -> x.leave(1), N, 2);
    e.refused("it is outside by now", Edge.after(INSIDE, x -> x.leave(0)), x -> x.leave(0), N, 2);
    e.refused("it is outside in haste", HASTE, x -> x.leave(0), N, 2);
    ClosedRooms x = Edge.after(INSIDE, y -> y.touch(0, 1, 0), y -> y.touch(0, 2, 0), y -> y.leave(0)).make();
    int[] due = {60, N, N, N, 0};
    for (int what = 0; what < 5; what++) e.is("outside, SEES nothing, what " + what, x.core(0, what), due[what]);
    e.is("SEES nothing", x.seen(0, 0, 0), N);
    e.is("its ENTRY is idle", x.page(2, 5), 0);
  }

  private static void promise21Trap() {
    Edge e = new Edge(check, "21 (trap)");
    e.done("CORE 0", INSIDE, x -> x.trap(0), 2, 7, 0);
    e.done("CORE 2, REGISTER 999", Edge.after(HOUSE, x -> x.tell(2, 999), x -> x.enter(2, 0, 0)), x -> x.trap(2), 2, 7, 2);
    e.done("by an ENTRY that is BLOCKED", Edge.after(INSIDE, x -> x.block(2)), x -> x.trap(0), 2, 7, 0);
    e.refused("no MACHINE", NEW, x -> x.trap(0), N, 0);
    for (int far : Edge.FAR) e.refused("no such CORE: " + far, INSIDE, x -> x.trap(far), N, 0);
    e.refused("no such CORE: 3 of three", INSIDE, x -> x.trap(3), N, 0);
    e.refused("it is outside", INSIDE, x -> x.trap(1), N, 2);
    e.refused("it is outside by now", HASTE, x -> x.trap(0), N, 2);
    ClosedRooms x = Edge.after(HOUSE, y -> y.tell(1, 999), y -> y.enter(1, 0, 0), y -> y.touch(1, 1, 1), y -> y.trap(1)).make();
    int[] due = {0, N, N, N, 0};
    for (int what = 0; what < 5; what++) e.is("outside, SEES nothing, REGISTER 0, what " + what, x.core(1, what), due[what]);
    e.is("the ENTRY is left in haste", x.page(2, 5), 2);
    x.block(2);
    x.track(0);
    x.evict(2, 1, 0);
    e.is("its VALUE is the REGISTER", x.change(0, 0), 999);
    x = Edge.after(INSIDE, y -> y.trap(0), y -> y.block(2), y -> y.track(0), y -> y.evict(2, 1, 0)).make();
    e.is("its VALUE is the REGISTER, 0 instead of 11", x.change(0, 5), 0);
  }

  private static void promise22ResumeTakes() {
    Edge e = new Edge(check, "22 (resume)");
    e.done("by the same CORE", HASTE, x -> x.resume(0, 0, 0), 77, 8, 0);
    e.done("by another CORE, the last", HASTE, x -> x.resume(2, 0, 0), 77, 8, 2);
    e.done("REGISTER 0", Edge.after(INSIDE, x -> x.trap(0)), x -> x.resume(0, 0, 0), 0, 8, 0);
    e.done("REGISTER 999", Edge.after(HOUSE, x -> x.tell(0, 999), x -> x.enter(0, 0, 0), x -> x.trap(0)), x -> x.resume(1, 0, 0), 999, 8, 1);
    e.done("by an ENTRY that came back", Edge.after(HASTE, x -> x.block(2), x -> x.track(0), x -> x.evict(2, 1, 0), x -> x.load(0, 1, 0)),
        x -> x.resume(1, 0, 0), 77, 8, 1);
    ClosedRooms x = Edge.after(HASTE, y -> y.track(0), y -> y.tell(1, 5), y -> y.resume(1, 0, 0)).make();
    int[] due = {77, 0, 2, 1, 0};
    for (int what = 0; what < 5; what++) e.is("inside since the EPOCH of the ROOM, what " + what, x.core(1, what), due[what]);
    e.is("the ENTRY is taken", x.page(2, 5), 1);
    x.leave(1);
    x.block(2);
    x.track(0);
    x.evict(2, 1, 0);
    e.is("VALUE is 0 then", x.change(0, 5), 0);
  }

  private static void promise22ResumeRefused() {
    Edge e = new Edge(check, "22 (resume)");
    e.refused("no MACHINE", NEW, x -> x.resume(0, 0, 0), N, 0);
    for (int far : Edge.FAR) {
      e.refused("no such CORE: " + far, HASTE, x -> x.resume(far, 0, 0), N, 0);
      e.refused("no such ROOM: " + far, HASTE, x -> x.resume(0, far, 0), N, 0);
      e.refused("ADDRESS " + far, HASTE, x -> x.resume(0, 0, far), N, 1);
    }
    e.refused("no such CORE: 3 of three", HASTE, x -> x.resume(3, 0, 0), N, 0);
    e.refused("no such ROOM: 1", HASTE, x -> x.resume(0, 1, 0), N, 0);
    e.refused("ADDRESS 4 of SIZE 4", HASTE, x -> x.resume(0, 0, 4), N, 1);
    Edge.Make other = Edge.after(TWO_ROOMS, x -> x.enter(0, 0, 0), x -> x.trap(0), x -> x.enter(0, 1, 0));
    e.refused("the CORE is inside", other, x -> x.resume(0, 0, 0), N, 2);
    e.refused("the ROOM is not SEALED", SITE, x -> x.resume(0, 0, 0), N, 2);
    e.refused("AWAY", SEALED_AWAY, x -> x.resume(0, 1, 0), N, 2);
    e.refused("no ENTRY", HASTE, x -> x.resume(0, 0, 1), N, 2);
    e.refused("no ENTRY left in haste: idle", HOUSE, x -> x.resume(0, 0, 0), N, 2);
    e.refused("no ENTRY left in haste: taken", INSIDE, x -> x.resume(1, 0, 0), N, 2);
    e.refused("no ENTRY left in haste: resumed already", Edge.after(HASTE, x -> x.resume(1, 0, 0)), x -> x.resume(0, 0, 0), N, 2);
    e.refused("FOUND: MAP tells none", HASTE, x -> x.resume(0, 0, 3), N, 4);
    e.refused("FOUND: MAP tells a FREE PAGE", Edge.after(HASTE, x -> x.map(0, 0, 7)), x -> x.resume(0, 0, 0), N, 4);
    e.refused("FOUND: MAP tells a page of another ADDRESS", Edge.after(HASTE, x -> x.map(0, 0, 3)), x -> x.resume(0, 0, 0), N, 4);
    e.refused("FOUND: MAP tells the ENTRY of another ADDRESS", Edge.after(HASTE, x -> x.map(0, 3, 2)), x -> x.resume(0, 0, 3), N, 4);
    Edge.Make both = Edge.after(TWO_ROOMS, x -> x.enter(0, 0, 0), x -> x.trap(0), x -> x.map(1, 0, 2));
    e.refused("FOUND: MAP tells the ENTRY of another ROOM", both, x -> x.resume(0, 1, 0), N, 4);
    e.refused("FOUND: BLOCKED", Edge.after(HASTE, x -> x.block(2)), x -> x.resume(0, 0, 0), N, 4);
  }

  private static void promise22ResumeOfSeveralTheFirst() {
    Edge e = new Edge(check, "22 (resume), of several the first");
    e.refused("no such CORE, ADDRESS", HASTE, x -> x.resume(3, 0, 4), N, 0);
    e.refused("no such ROOM, ADDRESS", HASTE, x -> x.resume(0, 1, 4), N, 0);
    e.refused("ADDRESS, the CORE is inside", INSIDE, x -> x.resume(0, 0, 4), N, 1);
    e.refused("ADDRESS, the ROOM is not SEALED", SITE, x -> x.resume(0, 0, 4), N, 1);
    e.refused("the CORE is inside, FOUND", INSIDE, x -> x.resume(0, 0, 3), N, 2);
    e.refused("AWAY, FOUND", SEALED_AWAY, x -> x.resume(0, 1, 1), N, 2);
    e.refused("idle, BLOCKED", Edge.after(HOUSE, x -> x.block(2)), x -> x.resume(0, 0, 0), N, 2);
    e.refused("taken, BLOCKED", Edge.after(INSIDE, x -> x.block(2)), x -> x.resume(1, 0, 0), N, 2);
  }

  private static void promise23TouchTakes() {
    Edge e = new Edge(check, "23 (touch)");
    e.done("HOW 0 reads", INSIDE, x -> x.touch(0, 1, 0), 50, 9, 0);
    e.done("HOW 1 writes", INSIDE, x -> x.touch(0, 1, 1), 0, 9, 0);
    e.done("HOW 2 goes", INSIDE, x -> x.touch(0, 2, 2), 60, 9, 0);
    for (int rights = 1; rights <= 7; rights++) {
      int one = rights;
      for (int how = 0; how < 3; how++) {
        int by = how;
        Edge.Make make = Edge.after(TEN, x -> x.create(8), x -> x.add(0, 0, 1, 1, 0), x -> x.add(0, 7, 0, one, 30),
            x -> x.seal(0, Check.room(x, 0, 3)), x -> x.enter(2, 0, 0));
        String what = "ADDRESS 7, the last; RIGHTS " + one + ", HOW " + by;
        if ((one >> by & 1) == 1) e.done(what, make, x -> x.touch(2, 7, by), by == 1 ? 0 : 30, 9, 2);
        else e.refused(what, make, x -> x.touch(2, 7, by), N, 4);
      }
    }
    ClosedRooms x = Edge.after(HOUSE, y -> y.tell(0, 999), y -> y.enter(0, 0, 0), y -> y.touch(0, 1, 1), y -> y.touch(0, 2, 0)).make();
    e.is("VALUE became REGISTER", x.touch(0, 1, 0), 999);
    e.is("the CORE SEES both", x.core(0, 4), 2);
  }

  private static void promise23TouchModulo() {
    Edge e = new Edge(check, "23 (touch)");
    int[][] pairs = {{0, 0}, {0, 999}, {999, 999}, {999, 0}, {142, 5}, {142, 6}, {143, 0}, {1, 993}, {1, 992}};
    for (int[] pair : pairs) {
      Edge.Make make = Edge.after(TEN, x -> x.create(2), x -> x.add(0, 0, 1, 1, 0), x -> x.add(0, 1, 0, 4, pair[1]),
          x -> x.seal(0, Check.room(x, 0, 3)), x -> { if (pair[0] != 0) x.tell(0, pair[0]); return 0; }, x -> x.enter(0, 0, 0));
      e.done("7 times " + pair[0] + " and " + pair[1] + ", modulo 1,000", make, x -> x.touch(0, 1, 2), (7 * pair[0] + pair[1]) % 1000, 9, 0);
    }
  }

  private static void promise23TouchRefused() {
    Edge e = new Edge(check, "23 (touch)");
    e.refused("no MACHINE", NEW, x -> x.touch(0, 0, 0), N, 0);
    for (int far : Edge.FAR) {
      e.refused("no such CORE: " + far, INSIDE, x -> x.touch(far, 1, 0), N, 0);
      e.refused("ADDRESS " + far, INSIDE, x -> x.touch(0, far, 0), N, 1);
      e.refused("HOW " + far, INSIDE, x -> x.touch(0, 1, far), N, 1);
    }
    e.refused("no such CORE: 3 of three", INSIDE, x -> x.touch(3, 1, 0), N, 0);
    e.refused("ADDRESS 8", INSIDE, x -> x.touch(0, 8, 0), N, 1);
    e.refused("HOW 3", INSIDE, x -> x.touch(0, 2, 3), N, 1);
    e.refused("it is outside", INSIDE, x -> x.touch(1, 1, 0), N, 2);
    e.refused("ADDRESS 4, beyond SIZE 4", INSIDE, x -> x.touch(0, 4, 0), N, 2);
    e.refused("ADDRESS 7, beyond SIZE 4", INSIDE, x -> x.touch(0, 7, 0), N, 2);
  }

  private static void promise23TouchFound() {
    Edge e = new Edge(check, "23 (touch), FOUND");
    e.refused("MAP tells none", INSIDE, x -> x.touch(0, 3, 0), N, 4);
    e.refused("MAP is told none", Edge.after(INSIDE, x -> x.map(0, 1, N)), x -> x.touch(0, 1, 0), N, 4);
    e.refused("MAP tells a FREE PAGE", Edge.after(INSIDE, x -> x.map(0, 1, 7)), x -> x.touch(0, 1, 0), N, 4);
    e.refused("MAP tells the ROOT", Edge.after(INSIDE, x -> x.map(0, 1, 0)), x -> x.touch(0, 1, 0), N, 4);
    e.refused("MAP tells SLOTS", Edge.after(INSIDE, x -> x.map(0, 1, 1)), x -> x.touch(0, 1, 0), N, 4);
    e.refused("MAP tells a page of another ADDRESS", Edge.after(INSIDE, x -> x.map(0, 1, 4)), x -> x.touch(0, 1, 0), N, 4);
    e.refused("MAP tells a page of another ROOM", Edge.after(TWO_ROOMS, x -> x.enter(0, 0, 0), x -> x.map(0, 1, 7)), x -> x.touch(0, 1, 0), N, 4);
    e.refused("its page is out", Edge.after(Edge.WITH_COPY, x -> x.enter(0, 0, 0)), x -> x.touch(0, 1, 0), N, 4);
    e.refused("BLOCKED", Edge.after(INSIDE, x -> x.block(3)), x -> x.touch(0, 1, 0), N, 4);
    e.refused("BLOCKED, and SEEN no more", Edge.after(INSIDE, x -> x.touch(0, 1, 0), x -> x.touch(0, 2, 0), x -> x.block(3), x -> x.leave(0),
        x -> x.enter(0, 0, 0)), x -> x.touch(0, 1, 0), N, 4);
    e.refused("no PLAIN one: an ENTRY", INSIDE, x -> x.touch(0, 0, 2), N, 4);
    e.refused("not that one of its RIGHTS, to go", INSIDE, x -> x.touch(0, 1, 2), N, 4);
    e.refused("not that one of its RIGHTS, though SEEN", Edge.after(INSIDE, x -> x.touch(0, 1, 0)), x -> x.touch(0, 1, 2), N, 4);
  }

  private static void promise23TouchByThePageSeen() {
    Edge e = new Edge(check, "23 (touch), does the CORE SEE the ADDRESS, by that PAGE");
    Edge.Make sees = Edge.after(INSIDE, x -> x.touch(0, 1, 0), x -> x.touch(0, 2, 2));
    e.done("though MAP tells none", Edge.after(sees, x -> x.map(0, 1, N)), x -> x.touch(0, 1, 0), 50, 9, 0);
    e.done("though MAP tells another", Edge.after(sees, x -> x.map(0, 1, 4)), x -> x.touch(0, 1, 0), 50, 9, 0);
    e.done("though BLOCKED, to read", Edge.after(sees, x -> x.block(3)), x -> x.touch(0, 1, 0), 50, 9, 0);
    e.done("though BLOCKED, to write", Edge.after(sees, x -> x.block(3)), x -> x.touch(0, 1, 1), (7 * 50 + 60) % 1000, 9, 0);
    e.done("though BLOCKED in an EPOCH ahead", Edge.after(sees, x -> x.block(3), x -> x.track(0)), x -> x.touch(0, 1, 0), 50, 9, 0);
    ClosedRooms x = Edge.after(sees, y -> y.touch(0, 1, 1)).make();
    e.is("SEEN once, still the longest", x.seen(0, 0, 0) * 10 + x.core(0, 4), 12);
    e.refused("another CORE does not", Edge.after(HOUSE, y -> y.enter(0, 0, 0), y -> y.touch(0, 1, 0), y -> y.block(3), y -> y.leave(0),
        y -> y.enter(1, 0, 0)), y -> y.touch(1, 1, 0), N, 4);
  }

  /** As many ADDRESSES as hold tells at most: the one seen longest goes. */
  private static void promise23TouchHold() {
    for (int hold = 1; hold <= 3; hold++) {
      Edge e = new Edge(check, "23 (touch), hold " + hold);
      int most = hold;
      Edge.Make make = Edge.after(Edge.machine("pages 10;hold " + hold), x -> x.create(8), x -> x.add(0, 0, 1, 1, 0),
          x -> { for (int i = 1; i <= 5; i++) x.add(0, i, 0, 1, i); return 0; }, x -> x.seal(0, Check.room(x, 0, 3)),
          x -> x.enter(0, 0, 0), x -> { for (int i = 1; i <= most; i++) x.touch(0, i, 0); return 0; });
      ClosedRooms full = make.make();
      e.is("as many as hold", full.core(0, 4), hold);
      e.is("the longest seen first", full.seen(0, 0, 0), 1);
      e.is("the latest last", full.seen(0, hold - 1, 0), hold);
      e.is("none behind", full.seen(0, hold, 0), N);
      e.done("one more", make, x -> x.touch(0, 5, 0), 5, 9, 0);
      ClosedRooms more = Edge.after(make, x -> x.touch(0, 5, 0)).make();
      e.is("as many as hold still", more.core(0, 4), hold);
      for (int i = 0; i < hold - 1; i++) e.is("the one seen longest goes, " + i, more.seen(0, i, 0), i + 2);
      e.is("the new one is the last", more.seen(0, hold - 1, 0), 5);
      for (int i = 0; i < hold; i++) e.is("each with its PAGE", more.seen(0, i, 1), more.seen(0, i, 0) + 1);
      e.is("the one that went is asked of anew", Edge.after(make, x -> x.touch(0, 5, 0), x -> x.block(2)).make().touch(0, 1, 0), N);
      e.refused("what is FOUND pushes none out", make, x -> x.touch(0, 0, 0), N, 4);
      e.refused("what has not the RIGHT pushes none out", make, x -> x.touch(0, 5, 1), N, 4);
    }
  }

  private static void promise23TouchOfSeveralTheFirst() {
    Edge e = new Edge(check, "23 (touch), of several the first");
    e.refused("no such CORE, ADDRESS", INSIDE, x -> x.touch(3, 8, 0), N, 0);
    e.refused("no such CORE, HOW", INSIDE, x -> x.touch(-1, 1, 3), N, 0);
    e.refused("ADDRESS, it is outside", INSIDE, x -> x.touch(1, 8, 0), N, 1);
    e.refused("HOW, it is outside", INSIDE, x -> x.touch(1, 1, 3), N, 1);
    e.refused("HOW, beyond SIZE", INSIDE, x -> x.touch(0, 4, 3), N, 1);
    e.refused("HOW, FOUND", INSIDE, x -> x.touch(0, 0, 3), N, 1);
    e.refused("beyond SIZE ahead of FOUND", INSIDE, x -> x.touch(0, 5, 2), N, 2);
  }
}
