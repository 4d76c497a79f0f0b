/** Promises 24 to 33, edge by edge: BLOCK, TRACK, EVICT, LOAD, REMOVE, MAP and what is done by hand outside. */
public final class EdgesOfSealsTest {
  private static final Check check = new Check("EdgesOfSealsTest");
  private static final int N = Check.N;
  private static final int H = Check.H;
  private static final Edge.Make NEW = Edge.NEW;
  private static final Edge.Make HOUSE = Edge.HOUSE;
  private static final Edge.Make SITE = Edge.SITE;
  private static final Edge.Make INSIDE = Edge.INSIDE;
  private static final Edge.Make WITH_COPY = Edge.WITH_COPY;
  private static final Edge.Make AWAY = Edge.AWAY;
  private static final Edge.Make TEN = Edge.machine("pages 10;cores 3");
  /** PAGE 3 is BLOCKED in EPOCH 0 and EPOCH is 1: it can go. */
  private static final Edge.Make TRACKED = Edge.after(HOUSE, x -> x.block(3), x -> x.track(0));
  /** COPY 0 (VERSION 1, of PAGE 3) lies twelve times. */
  private static final Edge.Make TWELVE = Edge.after(WITH_COPY, Edge.times(11, x -> x.twice(0)));
  /** Three ENTRIES (PAGES 2, 3, 4), a PLAIN page (PAGE 5), SLOTS (PAGE 1); three CORES. */
  private static final Edge.Make HALL = Edge.after(TEN, x -> x.create(6), x -> x.slots(), x -> x.add(0, 0, 1, 1, 0),
      x -> x.add(0, 1, 1, 1, 0), x -> x.add(0, 2, 1, 1, 0), x -> x.add(0, 3, 0, 1, 5), x -> x.seal(0, Check.room(x, 0, 3)));

  public static void main(String[] args) {
    promise24Block();
    promise25Track();
    promise26EvictTakes();
    promise26EvictNothingOfAnother();
    promise26EvictOfRoots();
    promise26EvictByEpochs();
    promise26EvictRefused();
    promise26EvictOfSeveralTheFirst();
    promise27LoadTakes();
    promise27LoadOfSeveral();
    promise27LoadRefused();
    promise27LoadFound();
    promise27LoadOfSeveralTheFirst();
    promise28RemoveTakes();
    promise28RemoveRefused();
    promise29Map();
    promise29MapRefused();
    promise30Twice();
    promise31Change();
    promise32Drop();
    promise33Tell();
    check.finish();
  }

  private static void promise24Block() {
    Edge e = new Edge(check, "24 (block)");
    e.done("PLAIN, in EPOCH 0", HOUSE, x -> x.block(3), 0, 10, 3);
    e.done("an ENTRY that is idle", HOUSE, x -> x.block(2), 0, 10, 2);
    e.done("an ENTRY that is taken", INSIDE, x -> x.block(2), 0, 10, 2);
    e.done("an ENTRY left in haste", Edge.after(INSIDE, x -> x.trap(0)), x -> x.block(2), 0, 10, 2);
    e.done("in EPOCH 3", Edge.after(HOUSE, Edge.times(3, x -> x.track(0))), x -> x.block(3), 3, 10, 3);
    e.done("of a ROOM that is BUILT", SITE, x -> x.block(4), 0, 10, 4);
    e.done("the first PAGE", Edge.after(TEN, x -> x.slots(), x -> x.create(1), x -> x.remove(0), x -> x.add(0, 0, 0, 1, 1)),
        x -> x.block(0), 0, 10, 0);
    e.done("the last PAGE", Edge.after(TEN, x -> x.create(1), Edge.times(8, x -> x.slots()), x -> x.add(0, 0, 0, 1, 1)),
        x -> x.block(9), 0, 10, 9);
    e.refused("no MACHINE", NEW, x -> x.block(0), N, 0);
    for (int far : Edge.FAR) e.refused("no such PAGE: " + far, HOUSE, x -> x.block(far), N, 0);
    e.refused("no such PAGE: 8 of eight", HOUSE, x -> x.block(8), N, 0);
    e.refused("no such PAGE: 10 of ten", TEN, x -> x.block(10), N, 0);
    e.refused("no such PAGE: 3 of three", Edge.machine("pages 3"), x -> x.block(3), N, 0);
    e.refused("FREE", HOUSE, x -> x.block(5), N, 0);
    e.refused("FREE, where it was", Edge.after(HOUSE, x -> x.remove(3)), x -> x.block(3), N, 0);
    e.refused("neither PLAIN nor an ENTRY: ROOT", HOUSE, x -> x.block(0), N, 2);
    e.refused("neither PLAIN nor an ENTRY: SLOTS", HOUSE, x -> x.block(1), N, 2);
    e.refused("it is BLOCKED", Edge.after(HOUSE, x -> x.block(3)), x -> x.block(3), N, 2);
    e.refused("it is BLOCKED in an EPOCH ahead", TRACKED, x -> x.block(3), N, 2);
  }

  private static void promise25Track() {
    Edge e = new Edge(check, "25 (track)");
    e.done("EPOCH 1", HOUSE, x -> x.track(0), 1, 11, 0);
    e.done("EPOCH 30", Edge.after(HOUSE, Edge.times(29, x -> x.track(0))), x -> x.track(0), 30, 11, 0);
    e.done("a CORE is inside since the EPOCH now", INSIDE, x -> x.track(0), 1, 11, 0);
    e.done("of a ROOM that is BUILT", SITE, x -> x.track(0), 1, 11, 0);
    e.done("ROOM 3, the last", Edge.after(TEN, Edge.times(4, x -> x.create(1))), x -> x.track(3), 1, 11, 3);
    e.refused("no MACHINE", NEW, x -> x.track(0), N, 0);
    for (int far : Edge.FAR) e.refused("no such ROOM: " + far, HOUSE, x -> x.track(far), N, 0);
    e.refused("no such ROOM: 1", HOUSE, x -> x.track(1), N, 0);
    e.refused("no such ROOM: 4", Edge.after(TEN, Edge.times(4, x -> x.create(1))), x -> x.track(4), N, 0);
    e.refused("AWAY", AWAY, x -> x.track(1), N, 2);
    e.done("no more AWAY", Edge.after(AWAY, x -> x.load(0, 1, 3)), x -> x.track(1), 1, 11, 1);
    Edge.Make since = Edge.after(INSIDE, x -> x.track(0));
    e.refused("a CORE is inside since an EPOCH ahead of the one now", since, x -> x.track(0), N, 2);
    e.done("it has left", Edge.after(since, x -> x.leave(0)), x -> x.track(0), 2, 11, 0);
    e.done("it has left in haste", Edge.after(since, x -> x.trap(0)), x -> x.track(0), 2, 11, 0);
    Edge.Make two = Edge.after(HALL, x -> x.enter(0, 0, 0), x -> x.track(0), x -> x.enter(2, 0, 2));
    e.refused("one since now, one since an EPOCH ahead", two, x -> x.track(0), N, 2);
    e.done("the one since now is left", Edge.after(two, x -> x.leave(0)), x -> x.track(0), 2, 11, 0);
    e.done("a CORE inside another ROOM is no matter", Edge.after(since, x -> x.create(1)), x -> x.track(1), 1, 11, 1);
  }

  private static void promise26EvictTakes() {
    Edge e = new Edge(check, "26 (evict)");
    e.done("PLAIN", TRACKED, x -> x.evict(3, 1, 0), 0, 12, 3);
    e.done("SLOT 3, the last", TRACKED, x -> x.evict(3, 1, 3), 0, 12, 3);
    e.done("an ENTRY that is idle", Edge.after(HOUSE, x -> x.block(2), x -> x.track(0)), x -> x.evict(2, 1, 0), 0, 12, 2);
    e.done("an ENTRY left in haste", Edge.after(INSIDE, x -> x.trap(0), x -> x.block(2), x -> x.track(0)), x -> x.evict(2, 1, 0), 0, 12, 2);
    e.done("of a ROOM that is BUILT", Edge.after(SITE, x -> x.block(3), x -> x.track(0)), x -> x.evict(3, 1, 0), 0, 12, 3);
    Edge.Make eleven = Edge.after(WITH_COPY, x -> x.block(4), x -> x.track(0), Edge.times(10, x -> x.twice(0)));
    e.done("the last of twelve places", eleven, x -> x.evict(4, 1, 1), 11, 12, 4);
    e.done("the lowest place that is empty", Edge.after(eleven, x -> x.drop(9), x -> x.drop(2)), x -> x.evict(4, 1, 1), 2, 12, 4);
    ClosedRooms x = Edge.after(TRACKED, y -> y.evict(3, 1, 3)).make();
    int[] due = {1, 1, 2, 3, 1, 0};
    for (int what = 0; what < 6; what++) e.is("the COPY, what " + what, x.copyOf(0, what), due[what]);
    e.is("VERSION 1 is in that SLOT", x.version(1, 3), 1);
    e.is("in no other", x.version(1, 0) + x.version(1, 1) + x.version(1, 2), 0);
    e.is("the PAGE is FREE", x.page(3, 0), 0);
    e.is("its ADDRESS is out", Check.room(x, 0, 8) * 10 + Check.room(x, 0, 7), 25);
    e.is("MAP is not told", x.mapped(0, 1), 3);
    x.block(4);
    x.track(0);
    x.drop(0);
    x.evict(4, 1, 0);
    e.is("VERSIONS go on, though a COPY was dropped", x.version(1, 0), 2);
  }

  /** The COPY is of this page alone, whatever lay in that place. */
  private static void promise26EvictNothingOfAnother() {
    Edge e = new Edge(check, "26 (evict)");
    ClosedRooms x = Edge.after(WITH_COPY, y -> y.change(0, 5), y -> y.drop(0), y -> y.create(2), y -> y.evict(3, 1, 1)).make();
    int[] root = {2, N, 1, 0, 2, 0};
    for (int what = 0; what < 6; what++) e.is("where a changed one lay, what " + what, x.copyOf(0, what), root[what]);
    e.is("it can be LOADED", x.load(0, 1, 1), 3);
    Edge.Make haste = Edge.after(HOUSE, y -> y.tell(0, 8), y -> y.enter(0, 0, 0), y -> y.trap(0), y -> y.block(2), y -> y.block(4),
        y -> y.track(0), y -> y.evict(2, 1, 0));
    x = Edge.after(haste, y -> y.drop(0), y -> y.evict(4, 1, 1), y -> y.load(0, 1, 1)).make();
    e.is("a PLAIN page where an ENTRY left in haste lay", x.page(2, 5), N);
    x = Edge.after(HALL, y -> y.enter(0, 0, 0), y -> y.trap(0), y -> y.block(2), y -> y.block(3), y -> y.track(0), y -> y.evict(2, 1, 0),
        y -> y.drop(0), y -> y.evict(3, 1, 1), y -> y.load(0, 1, 1)).make();
    e.is("an idle ENTRY where one left in haste lay", x.page(2, 5), 0);
    e.is("it is idle", x.enter(1, 0, 1), 2);
  }

  private static void promise26EvictOfRoots() {
    Edge e = new Edge(check, "26 (evict), ROOT");
    e.done("no other page of its ROOM is here", Edge.after(HOUSE, x -> x.create(2)), x -> x.evict(5, 1, 0), 0, 12, 5);
    Edge.Make one = Edge.after(HOUSE, x -> x.create(2), x -> x.add(1, 0, 0, 1, 1));
    e.refused("one other page is here", one, x -> x.evict(5, 1, 0), N, 2);
    e.done("the other page is out", Edge.after(one, x -> x.block(6), x -> x.track(1), x -> x.evict(6, 1, 0)), x -> x.evict(5, 1, 1), 1, 12, 5);
    e.done("the other page is REMOVED", Edge.after(one, x -> x.remove(6)), x -> x.evict(5, 1, 1), 0, 12, 5);
    ClosedRooms x = Edge.after(one, y -> y.block(6), y -> y.track(1), y -> y.evict(6, 1, 0), y -> y.evict(5, 1, 1)).make();
    int[] copy = {2, N, 1, 0, 2, 0};
    for (int what = 0; what < 6; what++) e.is("the COPY, what " + what, x.copyOf(1, what), copy[what]);
    int[] room = {2, 2, 1, 31 * 9 + 1, 1, 1, 0, 0, 1};
    for (int what = 0; what < 9; what++) e.is("what is known stays with the ROOM, what " + what, Check.room(x, 1, what), room[what]);
    e.is("its MAP stays", x.mapped(1, 0), 6);
    e.is("its MAP can be told", x.map(1, 1, 0), N);
    e.is("the ROOM is there", x.create(1), 2);
  }

  /** BLOCKED in an EPOCH ahead; all CORES inside since a later EPOCH than it was BLOCKED in. */
  private static void promise26EvictByEpochs() {
    Edge e = new Edge(check, "26 (evict)");
    e.refused("not BLOCKED", Edge.after(HOUSE, x -> x.track(0)), x -> x.evict(3, 1, 0), N, 2);
    e.refused("BLOCKED in the EPOCH now", Edge.after(HOUSE, x -> x.track(0), x -> x.block(3)), x -> x.evict(3, 1, 0), N, 2);
    e.done("BLOCKED in the EPOCH ahead of it", TRACKED, x -> x.evict(3, 1, 0), 0, 12, 3);
    e.done("BLOCKED two EPOCHS ahead", Edge.after(TRACKED, x -> x.track(0)), x -> x.evict(3, 1, 0), 0, 12, 3);
    e.refused("an ENTRY that is taken", Edge.after(INSIDE, x -> x.block(2), x -> x.track(0)), x -> x.evict(2, 1, 0), N, 2);
    Edge.Make before = Edge.after(HALL, x -> x.enter(0, 0, 0), x -> x.track(0));
    e.refused("a CORE is inside since an EPOCH ahead of that", Edge.after(HALL, x -> x.enter(0, 0, 0), x -> x.block(5), x -> x.track(0)),
        x -> x.evict(5, 1, 0), N, 2);
    e.refused("BLOCKED now, a CORE inside since an EPOCH ahead", Edge.after(before, x -> x.block(5)), x -> x.evict(5, 1, 0), N, 2);
    Edge.Make same = Edge.after(HALL, x -> x.track(0), x -> x.block(5), x -> x.enter(1, 0, 1), x -> x.track(0));
    e.refused("a CORE is inside since the EPOCH it was BLOCKED in, though it came later", same, x -> x.evict(5, 1, 0), N, 2);
    e.done("that CORE has left", Edge.after(same, x -> x.leave(1)), x -> x.evict(5, 1, 0), 0, 12, 5);
    e.done("that CORE has left in haste", Edge.after(same, x -> x.trap(1)), x -> x.evict(5, 1, 0), 0, 12, 5);
    e.done("that CORE has come again", Edge.after(same, x -> x.leave(1), x -> x.enter(1, 0, 1)), x -> x.evict(5, 1, 0), 0, 12, 5);
    Edge.Make later = Edge.after(HALL, x -> x.block(5), x -> x.track(0), x -> x.enter(0, 0, 0), x -> x.enter(2, 0, 2));
    e.done("all CORES are inside since a later EPOCH", later, x -> x.evict(5, 1, 0), 0, 12, 5);
    Edge.Make last = Edge.after(HALL, x -> x.enter(2, 0, 2), x -> x.block(5), x -> x.track(0), x -> x.enter(0, 0, 0));
    e.refused("all but the last CORE", last, x -> x.evict(5, 1, 0), N, 2);
    Edge.Make other = Edge.after(HALL, x -> x.enter(0, 0, 0), x -> x.create(1), x -> x.add(1, 0, 0, 1, 1), x -> x.block(7), x -> x.track(1));
    e.done("CORES of another ROOM are no matter", other, x -> x.evict(7, 1, 0), 0, 12, 7);
  }

  private static void promise26EvictRefused() {
    Edge e = new Edge(check, "26 (evict)");
    e.refused("no MACHINE", NEW, x -> x.evict(0, 1, 0), N, 0);
    for (int far : Edge.FAR) {
      e.refused("no such PAGE: " + far, TRACKED, x -> x.evict(far, 1, 0), N, 0);
      e.refused("the other one no SLOTS: " + far, TRACKED, x -> x.evict(3, far, 0), N, 0);
      e.refused("SLOT " + far, TRACKED, x -> x.evict(3, 1, far), N, 1);
    }
    e.refused("no such PAGE: 8 of eight", TRACKED, x -> x.evict(8, 1, 0), N, 0);
    e.refused("FREE", TRACKED, x -> x.evict(5, 1, 0), N, 0);
    e.refused("the other one no SLOTS: 8 of eight", TRACKED, x -> x.evict(3, 8, 0), N, 0);
    e.refused("the other one no SLOTS: ROOT", TRACKED, x -> x.evict(3, 0, 0), N, 0);
    e.refused("the other one no SLOTS: an ENTRY", TRACKED, x -> x.evict(3, 2, 0), N, 0);
    e.refused("the other one no SLOTS: PLAIN", TRACKED, x -> x.evict(3, 4, 0), N, 0);
    e.refused("the other one no SLOTS: itself", TRACKED, x -> x.evict(3, 3, 0), N, 0);
    e.refused("the other one no SLOTS: FREE", TRACKED, x -> x.evict(3, 5, 0), N, 0);
    e.refused("SLOT 4", TRACKED, x -> x.evict(3, 1, 4), N, 1);
    e.refused("SLOT -1", TRACKED, x -> x.evict(3, 1, -1), N, 1);
    e.refused("SLOTS can't go", TRACKED, x -> x.evict(1, 1, 0), N, 2);
    e.refused("SLOTS can't go into others", Edge.after(TRACKED, x -> x.slots()), x -> x.evict(1, 5, 0), N, 2);
    Edge.Make held = Edge.after(WITH_COPY, x -> x.block(4), x -> x.track(0));
    e.refused("the SLOT is not empty", held, x -> x.evict(4, 1, 0), N, 2);
    e.done("the next SLOT is", held, x -> x.evict(4, 1, 1), 1, 12, 4);
    e.done("the same SLOT of other SLOTS is", Edge.after(held, x -> x.slots()), x -> x.evict(4, 3, 0), 1, 12, 4);
    e.refused("no place", Edge.after(held, Edge.times(11, x -> x.twice(0))), x -> x.evict(4, 1, 1), N, 3);
  }

  private static void promise26EvictOfSeveralTheFirst() {
    Edge e = new Edge(check, "26 (evict), of several the first");
    Edge.Make full = Edge.after(WITH_COPY, x -> x.block(4), x -> x.track(0), Edge.times(11, x -> x.twice(0)));
    e.refused("FREE, SLOT", TRACKED, x -> x.evict(5, 1, 4), N, 0);
    e.refused("no SLOTS, SLOT", TRACKED, x -> x.evict(3, 2, 4), N, 0);
    e.refused("no SLOTS, it can't go", TRACKED, x -> x.evict(4, 2, 0), N, 0);
    e.refused("SLOT, it can't go", TRACKED, x -> x.evict(4, 1, 4), N, 1);
    e.refused("SLOT, no place", full, x -> x.evict(4, 1, -1), N, 1);
    e.refused("it can't go, no place", full, x -> x.evict(2, 1, 1), N, 2);
    e.refused("the SLOT is not empty, no place", full, x -> x.evict(4, 1, 0), N, 2);
  }

  private static void promise27LoadTakes() {
    Edge e = new Edge(check, "27 (load)");
    e.done("into the lowest FREE PAGE", WITH_COPY, x -> x.load(0, 1, 0), 3, 13, 0);
    e.done("into the last FREE PAGE", Edge.after(WITH_COPY, Edge.times(3, x -> x.slots())), x -> x.load(0, 1, 0), 7, 13, 0);
    e.done("the last place", TWELVE, x -> x.load(11, 1, 0), 3, 13, 11);
    e.done("SLOT 3, the last", Edge.after(TRACKED, x -> x.evict(3, 1, 3)), x -> x.load(0, 1, 3), 3, 13, 0);
    e.done("a ROOT, though its ROOM is AWAY", AWAY, x -> x.load(0, 1, 3), 5, 13, 0);
    ClosedRooms x = Edge.after(WITH_COPY, y -> y.map(0, 1, N), y -> y.slots(), y -> y.load(0, 1, 0)).make();
    int[] due = {2, 0, 1, 3, 0, N};
    for (int what = 0; what < 6; what++) e.is("as it was, not BLOCKED, what " + what, x.page(5, what), due[what]);
    e.is("MAP is told the PAGE", x.mapped(0, 1), 5);
    e.is("the SLOT is empty", x.version(1, 0), 0);
    e.is("the COPY stays where it lies", x.copyOf(0, 4), 1);
    e.is("its ADDRESS is here", Check.room(x, 0, 7) * 10 + Check.room(x, 0, 8), 70);
    x.enter(0, 0, 0);
    e.is("VALUE as it was", x.touch(0, 1, 0), 50);
    Edge.Make idle = Edge.after(HOUSE, y -> y.block(2), y -> y.track(0), y -> y.evict(2, 1, 0));
    x = Edge.after(idle, y -> y.load(0, 1, 0)).make();
    int[] entry = {3, 0, 0, 4, 0, 0};
    for (int what = 0; what < 6; what++) e.is("an idle ENTRY as it was, what " + what, x.page(2, what), entry[what]);
    e.is("by it one enters", x.enter(0, 0, 0), 2);
    Edge.Make haste = Edge.after(HOUSE, y -> y.tell(0, 8), y -> y.enter(0, 0, 0), y -> y.trap(0), y -> y.block(2), y -> y.track(0),
        y -> y.evict(2, 1, 0));
    x = Edge.after(haste, y -> y.load(0, 1, 0)).make();
    e.is("an ENTRY left in haste as it was", x.page(2, 5), 2);
    e.is("with what it hid", x.resume(1, 0, 0), 8);
    x = Edge.after(haste, y -> y.twice(0), y -> y.load(1, 1, 0)).make();
    e.is("the double of one left in haste", x.page(2, 5), 2);
    e.is("with what it hid", x.resume(1, 0, 0), 8);
    x = Edge.after(AWAY, y -> y.load(0, 1, 3)).make();
    int[] root = {1, 1, N, 0, 0, N};
    for (int what = 0; what < 6; what++) e.is("a ROOT as it was, what " + what, x.page(5, what), root[what]);
    e.is("no more AWAY", Check.room(x, 1, 5), 0);
  }

  /** Of the SLOTS that one alone is empty, of the COPIES none is gone. */
  private static void promise27LoadOfSeveral() {
    Edge e = new Edge(check, "27 (load)");
    Edge.Make two = Edge.after(WITH_COPY, x -> x.slots(), x -> x.block(4), x -> x.track(0), x -> x.evict(4, 1, 3), x -> x.create(1),
        x -> x.evict(4, 3, 0));
    ClosedRooms x = Edge.after(two, y -> y.load(1, 1, 3)).make();
    e.is("the SLOT of the other page", x.version(1, 0), 1);
    e.is("the SLOT of this one", x.version(1, 3), 0);
    e.is("the SLOT of the other ROOM", x.version(3, 0), 3);
    e.is("COPIES", x.all(3), 7);
    e.is("what is OLD", x.old(), 2);
    e.is("ADDRESSES here", Check.room(x, 0, 7), 5);
    e.is("ADDRESSES out", Check.room(x, 0, 8), 2);
    e.is("the other ROOM is AWAY", Check.room(x, 1, 5), 1);
    e.is("VERSIONS given", x.all(4), 3);
  }

  private static void promise27LoadRefused() {
    Edge e = new Edge(check, "27 (load)");
    e.refused("no MACHINE", NEW, x -> x.load(0, 1, 0), N, 0);
    for (int far : Edge.FAR) {
      e.refused("no such COPY: " + far, WITH_COPY, x -> x.load(far, 1, 0), N, 0);
      e.refused("no SLOTS: " + far, WITH_COPY, x -> x.load(0, far, 0), N, 0);
      e.refused("SLOT " + far, WITH_COPY, x -> x.load(0, 1, far), N, 1);
    }
    e.refused("no such COPY: 1", WITH_COPY, x -> x.load(1, 1, 0), N, 0);
    e.refused("no such COPY: 12", TWELVE, x -> x.load(12, 1, 0), N, 0);
    e.refused("no such COPY: dropped", Edge.after(WITH_COPY, x -> x.drop(0)), x -> x.load(0, 1, 0), N, 0);
    e.refused("no SLOTS: ROOT", WITH_COPY, x -> x.load(0, 0, 0), N, 0);
    e.refused("no SLOTS: FREE", WITH_COPY, x -> x.load(0, 3, 0), N, 0);
    e.refused("no SLOTS: 8 of eight", WITH_COPY, x -> x.load(0, 8, 0), N, 0);
    e.refused("SLOT 4", WITH_COPY, x -> x.load(0, 1, 4), N, 1);
    e.refused("no FREE PAGE", Edge.after(WITH_COPY, Edge.times(4, x -> x.slots())), x -> x.load(0, 1, 0), N, 3);
  }

  private static void promise27LoadFound() {
    Edge e = new Edge(check, "27 (load), FOUND");
    e.refused("the COPY is changed", Edge.after(WITH_COPY, x -> x.change(0, 51)), x -> x.load(0, 1, 0), N, 4);
    e.refused("changed and changed back", Edge.after(WITH_COPY, x -> x.change(0, 51), x -> x.change(0, 50)), x -> x.load(0, 1, 0), N, 4);
    e.done("its double is not changed", Edge.after(WITH_COPY, x -> x.twice(0), x -> x.change(0, 51)), x -> x.load(1, 1, 0), 3, 13, 1);
    e.refused("its VERSION is not the one in the SLOT, which is empty", WITH_COPY, x -> x.load(0, 1, 1), N, 4);
    e.refused("its VERSION is not the one in the SLOT of others", Edge.after(WITH_COPY, x -> x.slots()), x -> x.load(0, 3, 0), N, 4);
    Edge.Make two = Edge.after(WITH_COPY, x -> x.block(4), x -> x.track(0), x -> x.evict(4, 1, 1));
    e.refused("its VERSION is a later one than in the SLOT", two, x -> x.load(1, 1, 0), N, 4);
    e.refused("its VERSION is an earlier one than in the SLOT", two, x -> x.load(0, 1, 1), N, 4);
    e.refused("twice", Edge.after(WITH_COPY, x -> x.load(0, 1, 0)), x -> x.load(0, 1, 0), N, 4);
    Edge.Make anew = Edge.after(WITH_COPY, x -> x.load(0, 1, 0), x -> x.block(3), x -> x.track(0), x -> x.evict(3, 1, 0));
    e.refused("old", anew, x -> x.load(0, 1, 0), N, 4);
    e.done("not old", anew, x -> x.load(1, 1, 0), 3, 13, 1);
    Edge.Make gone = Edge.after(WITH_COPY, x -> x.remove(2), x -> x.remove(4), x -> x.remove(0));
    e.refused("its ROOM is not there", gone, x -> x.load(0, 1, 0), N, 4);
    e.refused("its ROOM is not there by SERIAL", Edge.after(gone, x -> x.create(4)), x -> x.load(0, 1, 0), N, 4);
    Edge.Make away = Edge.after(WITH_COPY, x -> x.remove(2), x -> x.remove(4), x -> x.evict(0, 1, 1));
    e.refused("its ROOM is AWAY", away, x -> x.load(0, 1, 0), N, 4);
    e.done("the ROOT first", away, x -> x.load(1, 1, 1), 0, 13, 1);
    e.done("its ROOM is no more AWAY", Edge.after(away, x -> x.load(1, 1, 1)), x -> x.load(0, 1, 0), 2, 13, 0);
  }

  private static void promise27LoadOfSeveralTheFirst() {
    Edge e = new Edge(check, "27 (load), of several the first");
    Edge.Make full = Edge.after(WITH_COPY, Edge.times(4, x -> x.slots()));
    e.refused("no such COPY, SLOT", WITH_COPY, x -> x.load(1, 1, 4), N, 0);
    e.refused("no SLOTS, SLOT", WITH_COPY, x -> x.load(0, 0, 4), N, 0);
    e.refused("no SLOTS, no FREE PAGE", full, x -> x.load(0, 0, 0), N, 0);
    e.refused("SLOT, no FREE PAGE", full, x -> x.load(0, 1, 4), N, 1);
    e.refused("SLOT, changed", Edge.after(WITH_COPY, x -> x.change(0, 1)), x -> x.load(0, 1, 4), N, 1);
    e.refused("no FREE PAGE, changed", Edge.after(full, x -> x.change(0, 1)), x -> x.load(0, 1, 0), N, 3);
    e.refused("no FREE PAGE, another VERSION", full, x -> x.load(0, 1, 1), N, 3);
  }

  private static void promise28RemoveTakes() {
    Edge e = new Edge(check, "28 (remove)");
    e.done("PLAIN", HOUSE, x -> x.remove(3), 2, 14, 3);
    e.done("an ENTRY", HOUSE, x -> x.remove(2), 3, 14, 2);
    e.done("an ENTRY left in haste", Edge.after(INSIDE, x -> x.trap(0)), x -> x.remove(2), 3, 14, 2);
    e.done("SLOTS all empty", HOUSE, x -> x.remove(1), 4, 14, 1);
    e.done("SLOTS, though a CORE is inside a ROOM", INSIDE, x -> x.remove(1), 4, 14, 1);
    e.done("a ROOT alone", Edge.after(HOUSE, x -> x.create(1)), x -> x.remove(5), 1, 14, 5);
    Edge.Make out = Edge.after(WITH_COPY, x -> x.remove(2), x -> x.remove(4));
    e.done("a ROOT, its other page out", out, x -> x.remove(0), 1, 14, 0);
    e.done("BLOCKED", Edge.after(HOUSE, x -> x.block(3)), x -> x.remove(3), 2, 14, 3);
    e.done("of a ROOM that is BUILT", SITE, x -> x.remove(4), 2, 14, 4);
    e.done("a CORE is inside another ROOM", Edge.after(INSIDE, x -> x.create(1), x -> x.add(1, 0, 0, 1, 1)), x -> x.remove(6), 2, 14, 6);
    e.done("SLOTS that came to be empty", Edge.after(WITH_COPY, x -> x.load(0, 1, 0)), x -> x.remove(1), 4, 14, 1);
    ClosedRooms x = Edge.after(HOUSE, y -> y.remove(3)).make();
    e.is("the page is FREE", x.page(3, 0) * 10 + x.page(3, 1), N);
    e.is("its ADDRESS is neither here nor out", Check.room(x, 0, 7) * 10 + Check.room(x, 0, 8), 50);
    e.is("MAP is not told", x.mapped(0, 1), 3);
    x = Edge.after(out, y -> y.remove(0)).make();
    e.is("with a ROOT its ROOM is there no more", Check.room(x, 0, 0), Check.NO_SUCH_ELEMENT);
    e.is("its COPIES stay", x.copyOf(0, 0), 1);
  }

  private static void promise28RemoveRefused() {
    Edge e = new Edge(check, "28 (remove)");
    e.refused("no MACHINE", NEW, x -> x.remove(0), N, 0);
    for (int far : Edge.FAR) e.refused("no such PAGE: " + far, HOUSE, x -> x.remove(far), N, 0);
    e.refused("no such PAGE: 8 of eight", HOUSE, x -> x.remove(8), N, 0);
    e.refused("no such PAGE: 10 of ten", TEN, x -> x.remove(10), N, 0);
    e.refused("FREE", HOUSE, x -> x.remove(5), N, 0);
    e.refused("FREE by now", Edge.after(HOUSE, x -> x.remove(3)), x -> x.remove(3), N, 0);
    e.refused("a CORE is inside its ROOM: PLAIN", INSIDE, x -> x.remove(3), N, 2);
    e.refused("a CORE is inside its ROOM: its ENTRY", INSIDE, x -> x.remove(2), N, 2);
    e.refused("a CORE is inside its ROOM: ROOT", INSIDE, x -> x.remove(0), N, 2);
    e.refused("the last CORE is inside its ROOM, since a later EPOCH", Edge.after(HOUSE, x -> x.block(3), x -> x.track(0),
        x -> x.enter(2, 0, 0)), x -> x.remove(3), N, 2);
    e.refused("a ROOT with other pages here", HOUSE, x -> x.remove(0), N, 2);
    e.refused("a ROOT with one other page here", Edge.after(HOUSE, x -> x.remove(2), x -> x.remove(3)), x -> x.remove(0), N, 2);
    for (int slot = 0; slot < 4; slot++) {
      int one = slot;
      e.refused("SLOTS not all empty: " + one, Edge.after(TRACKED, x -> x.evict(3, 1, one)), x -> x.remove(1), N, 2);
    }
  }

  private static void promise29Map() {
    Edge e = new Edge(check, "29 (map)");
    e.done("another PAGE", HOUSE, x -> x.map(0, 0, 7), 2, 15, 0);
    e.done("PAGE 0, the first", HOUSE, x -> x.map(0, 0, 0), 2, 15, 0);
    e.done("PAGE 9, the last of ten", Edge.after(TEN, x -> x.create(8)), x -> x.map(0, 0, 9), N, 15, 0);
    e.done("none", HOUSE, x -> x.map(0, 0, N), 2, 15, 0);
    e.done("it told none", HOUSE, x -> x.map(0, 3, 2), N, 15, 0);
    e.done("ADDRESS 7, the last of eight", Edge.after(TEN, x -> x.create(8)), x -> x.map(0, 7, 0), N, 15, 0);
    e.done("ROOM 3, the last", Edge.after(TEN, Edge.times(4, x -> x.create(1))), x -> x.map(3, 0, 5), N, 15, 3);
    e.done("a ROOM that is AWAY", AWAY, x -> x.map(1, 1, 5), N, 15, 1);
    e.done("a ROOM that a CORE is in", INSIDE, x -> x.map(0, 0, 1), 2, 15, 0);
    e.done("the same PAGE for another ADDRESS", HOUSE, x -> x.map(0, 3, 2), N, 15, 0);
  }

  private static void promise29MapRefused() {
    Edge e = new Edge(check, "29 (map)");
    e.refused("no MACHINE", NEW, x -> x.map(0, 0, N), H, 0);
    for (int far : Edge.FAR) {
      e.refused("no such ROOM: " + far, HOUSE, x -> x.map(far, 0, 7), H, 0);
      e.refused("ADDRESS " + far, HOUSE, x -> x.map(0, far, 7), H, 1);
      if (far != N) e.refused("no such PAGE: " + far, HOUSE, x -> x.map(0, 0, far), H, 1);
    }
    e.refused("no such ROOM: 1", HOUSE, x -> x.map(1, 0, 7), H, 0);
    e.refused("no such ROOM: 4", Edge.after(TEN, Edge.times(4, x -> x.create(1))), x -> x.map(4, 0, 7), H, 0);
    e.refused("ADDRESS 4 of SIZE 4", HOUSE, x -> x.map(0, 4, 7), H, 1);
    e.refused("ADDRESS 8 of SIZE 8", Edge.after(TEN, x -> x.create(8)), x -> x.map(0, 8, 7), H, 1);
    e.refused("no such PAGE: 8 of eight", HOUSE, x -> x.map(0, 0, 8), H, 1);
    e.refused("no such PAGE: 10 of ten", Edge.after(TEN, x -> x.create(8)), x -> x.map(0, 0, 10), H, 1);
    e.refused("it is so", HOUSE, x -> x.map(0, 0, 2), H, 2);
    e.refused("it is so: none", HOUSE, x -> x.map(0, 3, N), H, 2);
    e.refused("of several the first: no such ROOM, ADDRESS", HOUSE, x -> x.map(1, 9, 7), H, 0);
    e.refused("of several the first: no such ROOM, no such PAGE", HOUSE, x -> x.map(1, 0, 99), H, 0);
    e.refused("of several the first: ADDRESS, none as it would be", HOUSE, x -> x.map(0, 4, N), H, 1);
  }

  private static void promise30Twice() {
    Edge e = new Edge(check, "30 (twice)");
    e.done("into the lowest empty place", WITH_COPY, x -> x.twice(0), 1, 16, 0);
    e.done("into the last place", Edge.after(TWELVE, x -> x.drop(11)), x -> x.twice(10), 11, 16, 10);
    e.done("into the first place, from the last", Edge.after(TWELVE, x -> x.drop(0)), x -> x.twice(11), 0, 16, 11);
    e.done("of several empty ones the lowest", Edge.after(TWELVE, x -> x.drop(8), x -> x.drop(3)), x -> x.twice(0), 3, 16, 0);
    e.refused("no MACHINE", NEW, x -> x.twice(0), N, 0);
    for (int far : Edge.FAR) e.refused("no such COPY: " + far, WITH_COPY, x -> x.twice(far), N, 0);
    e.refused("no such COPY: 1", WITH_COPY, x -> x.twice(1), N, 0);
    e.refused("no such COPY: 12", Edge.after(TWELVE, x -> x.drop(3)), x -> x.twice(12), N, 0);
    e.refused("no place", TWELVE, x -> x.twice(0), N, 3);
    e.refused("no place", TWELVE, x -> x.twice(11), N, 3);
    e.refused("of several the first: no such COPY, no place", TWELVE, x -> x.twice(12), N, 0);
    ClosedRooms x = Edge.after(WITH_COPY, y -> y.change(0, 7), y -> y.twice(0)).make();
    for (int what = 0; what < 6; what++) e.is("the other one is the same, what " + what, x.copyOf(1, what), x.copyOf(0, what));
    e.is("changed, too", x.copyOf(1, 5), 1);
    e.is("with its VALUE", x.change(1, 8), 7);
    e.is("apart from the first", x.change(0, 8), 7);
  }

  private static void promise31Change() {
    Edge e = new Edge(check, "31 (change)");
    e.done("VALUE 0, the least", WITH_COPY, x -> x.change(0, 0), 50, 17, 0);
    e.done("VALUE 999, the most", WITH_COPY, x -> x.change(0, 999), 50, 17, 0);
    e.done("one more", WITH_COPY, x -> x.change(0, 51), 50, 17, 0);
    e.done("the last place", TWELVE, x -> x.change(11, 1), 50, 17, 11);
    e.done("a ROOT, whose VALUE is 0", AWAY, x -> x.change(0, 1), 0, 17, 0);
    e.done("it comes to be what it was", Edge.after(WITH_COPY, x -> x.change(0, 7)), x -> x.change(0, 50), 7, 17, 0);
    e.refused("no MACHINE", NEW, x -> x.change(0, 1), N, 0);
    for (int far : Edge.FAR) {
      e.refused("no such COPY: " + far, WITH_COPY, x -> x.change(far, 1), N, 0);
      e.refused("VALUE " + far, WITH_COPY, x -> x.change(0, far), N, 1);
    }
    e.refused("no such COPY: 1", WITH_COPY, x -> x.change(1, 1), N, 0);
    e.refused("no such COPY: 12", TWELVE, x -> x.change(12, 1), N, 0);
    e.refused("VALUE 1000", WITH_COPY, x -> x.change(0, 1000), N, 1);
    e.refused("it is so", WITH_COPY, x -> x.change(0, 50), N, 2);
    e.refused("it is so, changed already", Edge.after(WITH_COPY, x -> x.change(0, 7)), x -> x.change(0, 7), N, 2);
    e.refused("of several the first: no such COPY, VALUE", WITH_COPY, x -> x.change(1, 1000), N, 0);
    e.is("it is so: not changed", Edge.make(WITH_COPY, x -> x.change(0, 50)).copyOf(0, 5), 0);
    e.is("changed", Edge.after(WITH_COPY, x -> x.change(0, 51)).make().copyOf(0, 5), 1);
    e.is("changed it stays", Edge.after(WITH_COPY, x -> x.change(0, 51), x -> x.change(0, 50)).make().copyOf(0, 5), 1);
  }

  private static void promise32Drop() {
    Edge e = new Edge(check, "32 (drop)");
    e.done("the first place", WITH_COPY, x -> x.drop(0), 1, 18, 0);
    e.done("the last place", TWELVE, x -> x.drop(11), 1, 18, 11);
    e.done("VERSION 2", Edge.after(WITH_COPY, x -> x.block(4), x -> x.track(0), x -> x.evict(4, 1, 1)), x -> x.drop(1), 2, 18, 1);
    e.done("a ROOT's", AWAY, x -> x.drop(0), 1, 18, 0);
    e.refused("no MACHINE", NEW, x -> x.drop(0), N, 0);
    for (int far : Edge.FAR) e.refused("no such COPY: " + far, WITH_COPY, x -> x.drop(far), N, 0);
    e.refused("no such COPY: 1", WITH_COPY, x -> x.drop(1), N, 0);
    e.refused("no such COPY: 12", TWELVE, x -> x.drop(12), N, 0);
    e.refused("no such COPY: dropped already", Edge.after(WITH_COPY, x -> x.drop(0)), x -> x.drop(0), N, 0);
    ClosedRooms x = Edge.after(WITH_COPY, y -> y.drop(0)).make();
    e.is("the SLOT keeps its VERSION", x.version(1, 0), 1);
    e.is("the ADDRESS stays out", Check.room(x, 0, 8), 2);
    e.is("the COPY is no more", x.copyOf(0, 0), H);
  }

  private static void promise33Tell() {
    Edge e = new Edge(check, "33 (tell)");
    e.done("999, the most", HOUSE, x -> x.tell(0, 999), 0, 19, 0);
    e.done("0, the least", Edge.after(HOUSE, x -> x.tell(0, 999)), x -> x.tell(0, 0), 999, 19, 0);
    e.done("CORE 2, the last", HOUSE, x -> x.tell(2, 1), 0, 19, 2);
    e.done("another CORE is inside", INSIDE, x -> x.tell(1, 1), 0, 19, 1);
    e.done("one that has left", Edge.after(INSIDE, x -> x.leave(0)), x -> x.tell(0, 1), 0, 19, 0);
    e.refused("no MACHINE", NEW, x -> x.tell(0, 1), N, 0);
    for (int far : Edge.FAR) {
      e.refused("no such CORE: " + far, HOUSE, x -> x.tell(far, 1), N, 0);
      e.refused("VALUE " + far, HOUSE, x -> x.tell(0, far), N, 1);
    }
    e.refused("no such CORE: 3 of three", HOUSE, x -> x.tell(3, 1), N, 0);
    e.refused("no such CORE: 1 of one", Edge.machine("cores 1"), x -> x.tell(1, 1), N, 0);
    e.refused("1000", HOUSE, x -> x.tell(0, 1000), N, 1);
    e.refused("it is inside", INSIDE, x -> x.tell(0, 5), N, 2);
    e.refused("it is so", HOUSE, x -> x.tell(0, 0), N, 2);
    e.refused("it is so: 999", Edge.after(HOUSE, x -> x.tell(1, 999)), x -> x.tell(1, 999), N, 2);
    e.refused("of several the first: no such CORE, 1000", HOUSE, x -> x.tell(3, 1000), N, 0);
    e.refused("of several the first: 1000, it is inside", INSIDE, x -> x.tell(0, 1000), N, 1);
    e.refused("of several the first: -1, it is inside", INSIDE, x -> x.tell(0, -1), N, 1);
  }
}
