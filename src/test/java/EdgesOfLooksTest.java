/** Promises 7 to 13, 36, 38, 51 and 54, edge by edge: what is looked at, and what is not there. */
public final class EdgesOfLooksTest {
  private static final Check check = new Check("EdgesOfLooksTest");
  private static final int N = Check.N;
  private static final int H = Check.H;
  private static final int NO = Check.NO_SUCH_ELEMENT;
  private static final Edge.Make NEW = Edge.NEW;
  private static final Edge.Make HOUSE = Edge.HOUSE;
  private static final Edge.Make INSIDE = Edge.INSIDE;
  private static final Edge.Make WITH_COPY = Edge.WITH_COPY;
  private static final Edge.Make AWAY = Edge.AWAY;
  private static final Edge.Make TEN = Edge.machine("pages 10;cores 3;hold 3");
  /** ROOM 3 of four, SIZE 8, all PAGES taken: an ENTRY at 0 (PAGE 4), PLAIN pages at 3 to 7 (PAGES 5 to 9). */
  private static final Edge.Make LARGE = Edge.after(TEN, Edge.times(3, x -> x.create(1)), x -> x.create(8), x -> x.add(3, 0, 1, 7, 0),
      x -> { for (int i = 3; i < 8; i++) x.add(3, i, 0, 7, i); return 0; }, x -> x.seal(3, Check.room(x, 3, 3)));

  public static void main(String[] args) {
    promise7Page();
    promise8Version();
    promise9Room();
    promise10Mapped();
    promise11Core();
    promise12Seen();
    promise13CopyOf();
    promise36Status();
    promise36EachActByEachStatus();
    promise38Log();
    promise38SixtyAndOne();
    promise38ComesBack();
    promise51All();
    promise51Bits();
    promise51MostPages();
    promise54Count();
    check.finish();
  }

  private interface Look {
    int at(ClosedRooms x, int what);
  }

  /** What is told for 0 on; the first number behind that, and all that are far, are no such what. */
  private static void whats(Edge e, String of, Edge.Make make, Look look, int none, int... due) {
    for (int what = 0; what < due.length; what++) {
      int one = what;
      e.same(of + ", what " + what, make, x -> look.at(x, one), due[what]);
    }
    e.same(of + ", no such what: " + due.length, make, x -> look.at(x, due.length), none);
    for (int far : Edge.FAR) e.same(of + ", no such what: " + far, make, x -> look.at(x, far), none);
  }

  private static void promise7Page() {
    Edge e = new Edge(check, "7 (page)");
    whats(e, "ROOT", HOUSE, (x, what) -> x.page(0, what), H, 1, 0, N, 0, 0, N);
    whats(e, "SLOTS", HOUSE, (x, what) -> x.page(1, what), H, 4, N, N, N, N, N);
    whats(e, "an idle ENTRY", HOUSE, (x, what) -> x.page(2, what), H, 3, 0, 0, 4, 0, 0);
    whats(e, "a taken ENTRY", INSIDE, (x, what) -> x.page(2, what), H, 3, 0, 0, 4, 0, 1);
    whats(e, "an ENTRY left in haste, BLOCKED", Edge.after(INSIDE, x -> x.trap(0), x -> x.block(2)), (x, what) -> x.page(2, what), H,
        3, 0, 0, 4, 1, 2);
    whats(e, "PLAIN", HOUSE, (x, what) -> x.page(3, what), H, 2, 0, 1, 3, 0, N);
    whats(e, "PLAIN, BLOCKED", Edge.after(HOUSE, x -> x.block(3)), (x, what) -> x.page(3, what), H, 2, 0, 1, 3, 1, N);
    whats(e, "FREE", HOUSE, (x, what) -> x.page(5, what), H, 0, N, N, N, N, N);
    whats(e, "FREE, EVICTED", WITH_COPY, (x, what) -> x.page(3, what), H, 0, N, N, N, N, N);
    whats(e, "FREE, REMOVED, BLOCKED ahead", Edge.after(HOUSE, x -> x.block(3), x -> x.remove(3)), (x, what) -> x.page(3, what), H,
        0, N, N, N, N, N);
    whats(e, "the last PAGE, of ROOM 3, ADDRESS 7, RIGHTS 7", LARGE, (x, what) -> x.page(9, what), H, 2, 3, 7, 7, 0, N);
    e.same("no such PAGE: 8 of eight", HOUSE, x -> x.page(8, 0), H);
    e.same("no such PAGE: 10 of ten", LARGE, x -> x.page(10, 0), H);
    e.same("no such PAGE: 3 of three", Edge.machine("pages 3"), x -> x.page(3, 0), H);
    e.same("no such PAGE: no MACHINE", NEW, x -> x.page(0, 0), H);
    for (int far : Edge.FAR) e.same("no such PAGE: " + far, HOUSE, x -> x.page(far, 0), H);
  }

  private static void promise8Version() {
    Edge e = new Edge(check, "8 (version)");
    Edge.Make last = Edge.after(TEN, x -> x.create(1), x -> x.create(1), Edge.times(8, x -> x.slots()), x -> x.evict(0, 9, 3), x -> x.evict(1, 9, 0));
    whats(e, "SLOTS in the last PAGE", last, (x, slot) -> x.version(9, slot), N, 2, 0, 0, 1);
    whats(e, "SLOTS all empty", HOUSE, (x, slot) -> x.version(1, slot), N, 0, 0, 0, 0);
    e.same("no such SLOTS: ROOT", HOUSE, x -> x.version(0, 0), N);
    e.same("no such SLOTS: an ENTRY", HOUSE, x -> x.version(2, 0), N);
    e.same("no such SLOTS: PLAIN", HOUSE, x -> x.version(3, 0), N);
    e.same("no such SLOTS: FREE", HOUSE, x -> x.version(5, 0), N);
    e.same("no such SLOTS: 8 of eight", HOUSE, x -> x.version(8, 0), N);
    e.same("no such SLOTS: 10 of ten", last, x -> x.version(10, 0), N);
    e.same("no MACHINE", NEW, x -> x.version(0, 0), N);
    for (int far : Edge.FAR) e.same("no such SLOTS: " + far, HOUSE, x -> x.version(far, 0), N);
  }

  private static void promise9Room() {
    Edge e = new Edge(check, "9 (room)");
    int measure = 31 * (31 * (31 * 11 + 12) + 67) + 135;
    whats(e, "SEALED", HOUSE, (x, what) -> Check.room(x, 0, what), NO, 1, 4, 2, measure, 0, 0, 0, 7, 0);
    whats(e, "BUILT", Edge.SITE, (x, what) -> Check.room(x, 0, what), NO, 1, 4, 1, measure, 0, 0, 0, 7, 0);
    whats(e, "a CORE inside, one page out", Edge.after(WITH_COPY, x -> x.enter(2, 0, 0)), (x, what) -> Check.room(x, 0, what), NO,
        1, 4, 2, measure, 1, 0, 4, 5, 2);
    whats(e, "AWAY", AWAY, (x, what) -> Check.room(x, 1, what), NO, 2, 2, 1, 9, 0, 1, 0, 0, 0);
    whats(e, "the last of four", LARGE, (x, what) -> Check.room(x, 3, what), NO, 4, 8, 2, Check.room(LARGE.make(), 3, 3), 0, 0, 0, 249, 0);
    whats(e, "SIZE 1", LARGE, (x, what) -> Check.room(x, 0, what), NO, 1, 1, 1, 8, 0, 0, 0, 0, 0);
    e.same("no such ROOM: 1", HOUSE, x -> Check.room(x, 1, 0), NO);
    e.same("no such ROOM: 4", LARGE, x -> Check.room(x, 4, 0), NO);
    e.same("no such ROOM: one that was", Edge.after(LARGE, x -> x.remove(1)), x -> Check.room(x, 1, 0), NO);
    e.same("no such ROOM: no MACHINE", NEW, x -> Check.room(x, 0, 0), NO);
    for (int far : Edge.FAR) e.same("no such ROOM: " + far, HOUSE, x -> Check.room(x, far, 0), NO);
    Edge.Make three = Edge.after(TEN, x -> x.create(3), x -> x.add(0, 0, 1, 1, 1), x -> x.add(0, 1, 1, 1, 1), x -> x.add(0, 2, 1, 1, 1),
        x -> x.seal(0, Check.room(x, 0, 3)), x -> x.enter(2, 0, 0), x -> x.enter(0, 0, 1), x -> x.enter(1, 0, 2));
    e.same("all three CORES inside", three, x -> Check.room(x, 0, 6), 7);
    e.same("two of them", Edge.after(three, x -> x.trap(0)), x -> Check.room(x, 0, 6), 6);
  }

  private static void promise10Mapped() {
    Edge e = new Edge(check, "10 (mapped)");
    e.same("ADDRESS 0", HOUSE, x -> x.mapped(0, 0), 2);
    e.same("ADDRESS 3, the last of four: none", HOUSE, x -> x.mapped(0, 3), N);
    e.same("ADDRESS 4, beyond SIZE", HOUSE, x -> x.mapped(0, 4), N);
    e.same("ADDRESS 7, the last of eight", LARGE, x -> x.mapped(3, 7), 9);
    e.same("ADDRESS 8, beyond SIZE", LARGE, x -> x.mapped(3, 8), N);
    e.same("PAGE 0", Edge.after(HOUSE, x -> x.map(0, 3, 0)), x -> x.mapped(0, 3), 0);
    e.same("told none", Edge.after(HOUSE, x -> x.map(0, 0, N)), x -> x.mapped(0, 0), N);
    e.same("AWAY", Edge.after(AWAY, x -> x.map(1, 1, 7)), x -> x.mapped(1, 1), 7);
    e.same("no such ROOM: 1", HOUSE, x -> x.mapped(1, 0), N);
    e.same("no such ROOM: 4", LARGE, x -> x.mapped(4, 0), N);
    e.same("no MACHINE", NEW, x -> x.mapped(0, 0), N);
    for (int far : Edge.FAR) {
      e.same("no such ROOM: " + far, HOUSE, x -> x.mapped(far, 0), N);
      e.same("no such ADDRESS: " + far, HOUSE, x -> x.mapped(0, far), N);
    }
  }

  private static void promise11Core() {
    Edge e = new Edge(check, "11 (core)");
    whats(e, "outside", HOUSE, (x, what) -> x.core(0, what), H, 0, N, N, N, 0);
    whats(e, "outside, REGISTER 999", Edge.after(HOUSE, x -> x.tell(2, 999)), (x, what) -> x.core(2, what), H, 999, N, N, N, 0);
    whats(e, "inside since EPOCH 0", INSIDE, (x, what) -> x.core(0, what), H, 0, 0, 2, 0, 0);
    whats(e, "inside since EPOCH 2, SEES two", Edge.after(HOUSE, Edge.times(2, x -> x.track(0)), x -> x.enter(1, 0, 0), x -> x.touch(1, 1, 0),
        x -> x.touch(1, 2, 0), x -> x.track(0)), (x, what) -> x.core(1, what), H, 60, 0, 2, 2, 2);
    whats(e, "inside ROOM 3, SEES three", Edge.after(LARGE, x -> x.enter(2, 3, 0), x -> x.touch(2, 3, 0), x -> x.touch(2, 4, 0),
        x -> x.touch(2, 5, 0), x -> x.touch(2, 6, 0)), (x, what) -> x.core(2, what), H, 6, 3, 4, 0, 3);
    e.same("no such CORE: 3 of three", HOUSE, x -> x.core(3, 0), H);
    e.same("no such CORE: 1 of one", Edge.machine("cores 1"), x -> x.core(1, 0), H);
    e.same("no such CORE: no MACHINE", NEW, x -> x.core(0, 0), H);
    for (int far : Edge.FAR) e.same("no such CORE: " + far, HOUSE, x -> x.core(far, 0), H);
  }

  private static void promise12Seen() {
    Edge e = new Edge(check, "12 (seen)");
    Edge.Make three = Edge.after(LARGE, x -> x.enter(0, 3, 0), x -> x.touch(0, 7, 0), x -> x.touch(0, 3, 0), x -> x.touch(0, 5, 0));
    int[][] due = {{7, 9}, {3, 5}, {5, 7}};
    for (int i = 0; i < 3; i++) {
      int one = i;
      whats(e, "the longest seen first, " + i, three, (x, what) -> x.seen(0, one, what), N, due[i]);
    }
    e.same("no such one: 3 of three", three, x -> x.seen(0, 3, 0), N);
    e.same("no such one: 0 of none", INSIDE, x -> x.seen(0, 0, 0), N);
    e.same("no such one: 1 of one", Edge.after(INSIDE, x -> x.touch(0, 1, 0)), x -> x.seen(0, 1, 1), N);
    e.same("outside", HOUSE, x -> x.seen(0, 0, 0), N);
    e.same("another CORE", three, x -> x.seen(1, 0, 0), N);
    e.same("no such CORE: 3 of three", three, x -> x.seen(3, 0, 0), N);
    e.same("no MACHINE", NEW, x -> x.seen(0, 0, 0), N);
    for (int far : Edge.FAR) {
      e.same("no such CORE: " + far, three, x -> x.seen(far, 0, 0), N);
      e.same("no such one: " + far, three, x -> x.seen(0, far, 0), N);
    }
    e.same("seen again, it stays where it was", Edge.after(three, x -> x.touch(0, 7, 0)), x -> x.seen(0, 0, 0), 7);
    e.same("one that went and is seen again is the last", Edge.after(three, x -> x.touch(0, 6, 0), x -> x.touch(0, 7, 0)), x -> x.seen(0, 2, 0), 7);
  }

  private static void promise13CopyOf() {
    Edge e = new Edge(check, "13 (copyOf)");
    whats(e, "PLAIN", WITH_COPY, (x, what) -> x.copyOf(0, what), H, 1, 1, 2, 3, 1, 0);
    whats(e, "ROOT", AWAY, (x, what) -> x.copyOf(0, what), H, 2, N, 1, 0, 1, 0);
    whats(e, "an ENTRY", Edge.after(HOUSE, x -> x.block(2), x -> x.track(0), x -> x.evict(2, 1, 0)), (x, what) -> x.copyOf(0, what), H, 1, 0, 3, 4, 1, 0);
    whats(e, "changed", Edge.after(WITH_COPY, x -> x.change(0, 0)), (x, what) -> x.copyOf(0, what), H, 1, 1, 2, 3, 1, 1);
    Edge.Make twelve = Edge.after(WITH_COPY, Edge.times(11, x -> x.twice(0)));
    whats(e, "the last place", twelve, (x, what) -> x.copyOf(11, what), H, 1, 1, 2, 3, 1, 0);
    e.same("no such COPY: 12", twelve, x -> x.copyOf(12, 0), H);
    e.same("no such COPY: 1", WITH_COPY, x -> x.copyOf(1, 0), H);
    e.same("no such COPY: dropped", Edge.after(twelve, x -> x.drop(5)), x -> x.copyOf(5, 0), H);
    e.same("no MACHINE", NEW, x -> x.copyOf(0, 0), H);
    for (int far : Edge.FAR) e.same("no such COPY: " + far, WITH_COPY, x -> x.copyOf(far, 0), H);
  }

  private static void promise36Status() {
    Edge e = new Edge(check, "36 (status)");
    Edge.Call[] by = {x -> x.leave(9), x -> x.create(0), x -> x.leave(0), x -> x.twice(0), x -> x.seal(1, 9)};
    Edge.Make full = Edge.after(WITH_COPY, Edge.times(11, x -> x.twice(0)), x -> x.create(1));
    for (int status = 0; status < 5; status++) {
      for (int times = 0; times < 3; times++) {
        ClosedRooms x = full.make();
        for (int i = 0; i < times; i++) by[status].on(x);
        for (int i = 0; i < 5; i++) e.is(times + " by " + status + ", status(" + i + ")", x.status(i), i == status ? times : 0);
      }
    }
    e.same("no such what: 5", HOUSE, x -> x.status(5), N);
    for (int far : Edge.FAR) e.same("no such what: " + far, HOUSE, x -> x.status(far), N);
    ClosedRooms x = full.make();
    for (int i = 0; i < 5; i++) by[i].on(x);
    x.image();
    x.undo();
    x.undo();
    e.is("not UNDONE", Check.status(x), 11111);
    x.back();
    e.is("nor by BACK", Check.status(x), 11111);
    Check.text(x, 0, "pages 3");
    e.is("nor by another MACHINE", Check.status(x), 11111);
  }

  /** What is no ACT is counted by no STATUS, however it is refused. */
  private static void promise36EachActByEachStatus() {
    Edge e = new Edge(check, "36 (status), no ACT");
    Edge.Call[] calls = {x -> x.report(9, 9), x -> x.proves(9, 9, 9, 9) ? 1 : 0, x -> x.text(9), x -> x.end(999) ? 1 : 0, x -> x.fault(9),
        x -> x.rule(9), x -> x.page(99, 0), x -> x.version(99, 0), x -> Check.room(x, 9, 9), x -> x.mapped(9, 9), x -> x.core(9, 9),
        x -> x.seen(9, 9, 9), x -> x.copyOf(99, 9), x -> x.undo(), x -> x.log(99, 0), x -> x.twins(99), x -> x.waits(99), x -> x.leaks(9),
        x -> x.lies(9), x -> x.paper(9), x -> x.alike(9, 9) ? 1 : 0, x -> x.spell(99, 0), x -> x.step(9, 9, 9), x -> x.run(9, 9),
        x -> x.perform(9), x -> x.all(99), x -> x.back(), x -> x.count(99)};
    for (int i = 0; i < calls.length; i++) {
      ClosedRooms x = new ClosedRooms();
      calls[i].on(x);
      e.is("call " + i + ", no MACHINE", Check.status(x), 0);
      x = HOUSE.make();
      calls[i].on(x);
      e.is("call " + i, Check.status(x), 0);
    }
  }

  private static void promise38Log() {
    Edge e = new Edge(check, "38 (log)");
    whats(e, "the latest", HOUSE, (x, what) -> x.log(0, what), H, 4, 0, 1);
    whats(e, "the first of six", HOUSE, (x, what) -> x.log(5, what), H, 0, 4, 0);
    whats(e, "slots: NONE", HOUSE, (x, what) -> x.log(4, what), H, 1, N, 1);
    whats(e, "an answer NONE", Edge.after(HOUSE, x -> x.map(0, 3, 0)), (x, what) -> x.log(0, what), H, 15, 0, N);
    e.same("no such one: 6 of six", HOUSE, x -> x.log(6, 0), H);
    e.same("no such one: 0 of none", TEN, x -> x.log(0, 0), H);
    e.same("no MACHINE", NEW, x -> x.log(0, 0), H);
    for (int far : Edge.FAR) e.same("no such one: " + far, HOUSE, x -> x.log(far, 0), H);
    e.same("UNDONE, too", Edge.after(HOUSE, x -> x.undo()), x -> x.log(5, 0), H);
    e.is("what is refused is not told", Edge.make(HOUSE, x -> x.leave(0)).log(0, 0), 4);
  }

  /** The latest 60. */
  private static void promise38SixtyAndOne() {
    Edge e = new Edge(check, "38 (log)");
    for (int acts = 58; acts <= 130; acts += acts < 63 ? 1 : 33) {
      ClosedRooms x = TEN.make();
      for (int i = 1; i <= acts; i++) x.tell(0, i);
      int length = Math.min(60, acts);
      e.is(acts + " ACTS, how long", x.count(3), length);
      e.is(acts + " ACTS, the latest", x.log(0, 2), acts - 1);
      e.is(acts + " ACTS, the oldest", x.log(length - 1, 2), acts - length);
      e.is(acts + " ACTS, none behind", x.log(length, 2), H);
      x.undo();
      e.is(acts + " ACTS, one UNDONE, how long", x.count(3), Math.min(60, acts - 1));
      e.is(acts + " ACTS, one UNDONE, the latest", x.log(0, 2), acts - 2);
      e.is(acts + " ACTS, one UNDONE, the oldest", x.log(Math.min(60, acts - 1) - 1, 2), Math.max(0, acts - 61));
    }
  }

  /** The one that went as the 61st came is there again, sort, first number and answer, when that is UNDONE. */
  private static void promise38ComesBack() {
    Edge e = new Edge(check, "38 (log)");
    for (int acts = 60; acts <= 64; acts++) {
      ClosedRooms x = TEN.make();
      for (int i = 0; i < acts; i++) actByTurns(x, i);
      for (int i = 0; i < 3; i++) x.undo();
      int length = Math.min(60, acts - 3);
      e.is(acts + " ACTS, three UNDONE, how long", x.count(3), length);
      ClosedRooms y = TEN.make();
      for (int i = 0; i < acts - 3; i++) actByTurns(y, i);
      for (int i = 0; i < length; i += i < 50 ? 10 : 1) {
        for (int what = 0; what < 3; what++) e.is(acts + " ACTS, three UNDONE, " + i + ", " + what, x.log(i, what), y.log(i, what));
      }
    }
  }

  /** Seven ACTS by turns, each of which can be; so that the 61st is of another sort than the first. */
  private static int actByTurns(ClosedRooms x, int i) {
    switch (i % 7) {
      case 0: return x.create(1 + i % 8);
      case 1: return x.map(0, 0, 5);
      case 2: return x.track(0);
      case 3: return x.remove(0);
      case 4: return x.slots();
      case 5: return x.remove(0);
      default: return x.tell(i % 3, i);
    }
  }

  private static void promise51All() {
    Edge e = new Edge(check, "51 (all)");
    whats(e, "nothing at all", TEN, (x, what) -> x.all(what), H, 1023, 0, 0, 0, 0, 0, 0, 0, N);
    whats(e, "nothing at all, three PAGES", Edge.machine("pages 3"), (x, what) -> x.all(what), H, 7, 0, 0, 0, 0, 0, 0, 0, N);
    whats(e, "the house", HOUSE, (x, what) -> x.all(what), H, 224, 1, 0, 0, 0, 1, 4, 0, 0);
    whats(e, "all PAGES taken", LARGE, (x, what) -> x.all(what), H, 0, 15, 0, 0, 0, 4, 0, 0, 3);
    whats(e, "all SLOTS, all empty", Edge.after(TEN, Edge.times(10, x -> x.slots())), (x, what) -> x.all(what), H, 0, 0, 0, 0, 0, 0, 40, 0, N);
    whats(e, "twelve COPIES", Edge.after(WITH_COPY, Edge.times(11, x -> x.twice(0))), (x, what) -> x.all(what), H, 232, 1, 0, 4095, 1, 1, 3, 0, 0);
    for (int what = 0; what < 9; what++) {
      int one = what;
      e.same("no MACHINE, what " + what, NEW, x -> x.all(one), H);
    }
  }

  private static void promise51Bits() {
    Edge e = new Edge(check, "51 (all)");
    Edge.Make hall = Edge.after(TEN, x -> x.create(8), x -> { for (int i = 0; i < 8; i++) x.add(0, i, i < 3 ? 1 : 0, 7, 0); return 0; },
        x -> x.slots(), x -> x.seal(0, Check.room(x, 0, 3)), x -> { for (int i = 0; i < 3; i++) x.enter(i, 0, i); return 0; },
        x -> { for (int i = 1; i <= 8; i++) x.block(i); return 0; });
    e.same("all CORES inside", hall, x -> x.all(2), 7);
    e.same("the last one has left", Edge.after(hall, x -> x.leave(2)), x -> x.all(2), 3);
    e.same("the first one has left in haste", Edge.after(hall, x -> x.trap(0)), x -> x.all(2), 6);
    e.same("BLOCKED PAGES, all pages of ADDRESSES", hall, x -> x.all(7), 510);
    Edge.Make first = Edge.after(TEN, x -> x.slots(), x -> x.create(1), x -> x.remove(0), x -> x.add(0, 0, 0, 1, 1), x -> x.block(0));
    e.same("PAGE 0 BLOCKED", first, x -> x.all(7), 1);
    e.same("SLOTS in PAGE 0", Edge.after(TEN, x -> x.slots()), x -> x.all(6), 4);
    Edge.Make tenth = Edge.after(TEN, x -> x.create(1), Edge.times(8, x -> x.slots()), x -> x.add(0, 0, 0, 1, 1), x -> x.block(9));
    e.same("PAGE 9 BLOCKED", tenth, x -> x.all(7), 512);
    Edge.Make empty = Edge.after(hall, x -> { for (int i = 0; i < 3; i++) x.leave(i); return 0; }, x -> x.track(0));
    e.same("one is out", Edge.after(empty, x -> x.evict(8, 9, 2)), x -> x.all(7), 254);
    e.same("it came back, not BLOCKED", Edge.after(empty, x -> x.evict(8, 9, 2), x -> x.load(0, 9, 2)), x -> x.all(7), 254);
    e.same("SLOTS that are empty", Edge.after(empty, x -> x.evict(8, 9, 2), x -> x.evict(7, 9, 0)), x -> x.all(6), 2);
    e.same("none is empty", Edge.after(empty, x -> { for (int i = 0; i < 4; i++) x.evict(8 - i, 9, i); return 0; }), x -> x.all(6), 0);
    e.same("VERSIONS given", Edge.after(empty, x -> { for (int i = 0; i < 4; i++) x.evict(8 - i, 9, i); return 0; }), x -> x.all(4), 4);
    e.same("VERSIONS given, the COPY dropped", Edge.after(empty, x -> x.evict(8, 9, 2), x -> x.drop(0)), x -> x.all(4), 1);
    e.same("SERIALS given, the ROOM REMOVED", Edge.after(TEN, x -> x.create(1), x -> x.remove(0)), x -> x.all(5), 1);
    e.same("ROOMS that are there", Edge.after(LARGE, x -> x.remove(1)), x -> x.all(1), 13);
    e.same("a ROOM that is AWAY is there", AWAY, x -> x.all(1), 3);
    e.same("COPIES, some dropped", Edge.after(WITH_COPY, Edge.times(11, x -> x.twice(0)), x -> x.drop(0), x -> x.drop(11)), x -> x.all(3), 2046);
  }

  /** The ROOM with most pages here. */
  private static void promise51MostPages() {
    Edge e = new Edge(check, "51 (all 8)");
    Edge.Make four = Edge.after(TEN, Edge.times(4, x -> x.create(2)));
    e.same("of several the lowest", four, x -> x.all(8), 0);
    e.same("the lowest that is there", Edge.after(four, x -> x.remove(0)), x -> x.all(8), 1);
    e.same("the last has most", Edge.after(four, x -> x.add(3, 0, 0, 1, 1)), x -> x.all(8), 3);
    e.same("two have most", Edge.after(four, x -> x.add(3, 0, 0, 1, 1), x -> x.add(2, 0, 0, 1, 1)), x -> x.all(8), 2);
    e.same("what is out is not here", Edge.after(four, x -> x.slots(), x -> x.add(3, 0, 0, 1, 1), x -> x.block(5), x -> x.track(3),
        x -> x.evict(5, 4, 0)), x -> x.all(8), 0);
    e.same("AWAY, but alone", Edge.after(TEN, x -> x.create(1), x -> x.slots(), x -> x.evict(0, 1, 0)), x -> x.all(8), 0);
    e.same("none is there any more", Edge.after(TEN, x -> x.create(1), x -> x.remove(0)), x -> x.all(8), N);
  }

  private static void promise54Count() {
    Edge e = new Edge(check, "54 (count)");
    whats(e, "a new object", NEW, (x, what) -> x.count(what), H, 0, 0, 0, 0, 0);
    whats(e, "a MACHINE", TEN, (x, what) -> x.count(what), H, 10, 0, 0, 0, 0);
    whats(e, "the house, with SCRIPTS, fed", Edge.after(Edge.script(HOUSE, "slots", "slots"), x -> Check.put(x, "abc")),
        (x, what) -> x.count(what), H, 8, 2, 3, 6, 6);
    whats(e, "four SCRIPTS, a full TAPE, no MACHINE", Edge.after(Edge.script(NEW, "slots", "slots", "slots", "slots"),
        x -> Check.put(x, "k".repeat(320))), (x, what) -> x.count(what), H, 0, 4, 320, 0, 0);
    for (int acts : new int[] {39, 40, 41, 59, 60, 61}) {
      ClosedRooms x = TEN.make();
      for (int i = 1; i <= acts; i++) x.tell(0, i);
      e.is(acts + " ACTS, LOG", x.count(3), Math.min(60, acts));
      e.is(acts + " ACTS, can be UNDONE", x.count(4), Math.min(40, acts));
    }
  }
}
