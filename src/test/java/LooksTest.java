/** Promises 7 to 13, 36, 38, 51 and 54: what is looked at. */
public final class LooksTest {
  private static final Check check = new Check("LooksTest");
  private static final int N = Check.N;
  private static final int H = Check.H;
  private static final int[] ODD = {-1, -2, Check.MIN, Check.MAX, 1000, 12};

  public static void main(String[] args) {
    promise7Page();
    promise8Version();
    promise9Room();
    promise10Mapped();
    promise11Core();
    promise12Seen();
    promise13CopyOf();
    promise36Status();
    promise38Log();
    promise38LogOfSixty();
    promise38EverySort();
    promise51All();
    promise51FullestRoom();
    promise51TheFirstOfEach();
    promise54Count();
    check.finish();
  }

  private static void pageIs(ClosedRooms x, int page, int... due) {
    for (int i = 0; i < due.length; i++) check.is("page(" + page + ", " + i + ")", x.page(page, i), due[i]);
  }

  private static void promise7Page() {
    ClosedRooms x = Check.house();
    pageIs(x, 0, 1, 0, N, 0, 0, N);
    pageIs(x, 1, 4, N, N, N, N, N);
    pageIs(x, 2, 3, 0, 0, 4, 0, 0);
    pageIs(x, 3, 2, 0, 1, 3, 0, N);
    pageIs(x, 4, 2, 0, 2, 7, 0, N);
    pageIs(x, 5, 0, N, N, N, N, N);
    x.create(1);
    pageIs(x, 5, 1, 1, N, 0, 0, N);
    x.enter(0, 0, 0);
    pageIs(x, 2, 3, 0, 0, 4, 0, 1);
    x.block(2);
    x.block(3);
    pageIs(x, 2, 3, 0, 0, 4, 1, 1);
    pageIs(x, 3, 2, 0, 1, 3, 1, N);
    x.trap(0);
    pageIs(x, 2, 3, 0, 0, 4, 1, 2);
    for (int odd : ODD) {
      check.is("page(" + odd + ", 0)", x.page(odd, 0), H);
      check.is("page(0, " + odd + ")", x.page(0, odd), H);
    }
    check.is("page(8, 0)", x.page(8, 0), H);
    check.is("page(0, 6)", x.page(0, 6), H);
    check.is("page(7, 5)", x.page(7, 5), N);
  }

  private static void promise8Version() {
    ClosedRooms x = Check.houseWithCopy();
    check.is("version(1, 0)", x.version(1, 0), 1);
    check.is("version(1, 1)", x.version(1, 1), 0);
    check.is("version(1, 3)", x.version(1, 3), 0);
    check.is("version(1, 4)", x.version(1, 4), N);
    check.is("no SLOTS", x.version(2, 0), N);
    check.is("FREE", x.version(3, 0), N);
    for (int odd : ODD) {
      check.is("version(" + odd + ", 0)", x.version(odd, 0), N);
      check.is("version(1, " + odd + ")", x.version(1, odd), N);
    }
    check.is("no MACHINE", new ClosedRooms().version(0, 0), N);
  }

  private static void roomIs(ClosedRooms x, int room, int... due) {
    for (int i = 0; i < due.length; i++) check.is("room(" + room + ", " + i + ")", Check.room(x, room, i), due[i]);
  }

  private static void promise9Room() {
    ClosedRooms x = Check.machine("cores 3");
    x.create(4);
    roomIs(x, 0, 1, 4, 1, 11, 0, 0, 0, 0, 0);
    x.add(0, 3, 1, 5, 0);
    roomIs(x, 0, 1, 4, 1, 31 * 11 + 192 + 8 + 5, 0, 0, 0, 8, 0);
    x = Check.houseWithCopy();
    int measure = 31 * (31 * (31 * 11 + 12) + 67) + 135;
    roomIs(x, 0, 1, 4, 2, measure, 1, 0, 0, 5, 2);
    x.enter(2, 0, 0);
    roomIs(x, 0, 1, 4, 2, measure, 1, 0, 4, 5, 2);
    x.leave(2);
    x.create(2);
    roomIs(x, 1, 2, 2, 1, 9, 0, 0, 0, 0, 0);
    x.evict(3, 1, 1);
    roomIs(x, 1, 2, 2, 1, 9, 0, 1, 0, 0, 0);
    check.is("room(1, 9)", Check.room(x, 1, 9), Check.NO_SUCH_ELEMENT);
    check.is("room(2, 0)", Check.room(x, 2, 0), Check.NO_SUCH_ELEMENT);
    check.is("room(4, 0)", Check.room(x, 4, 0), Check.NO_SUCH_ELEMENT);
    for (int odd : ODD) {
      check.is("room(" + odd + ", 0)", Check.room(x, odd, 0), Check.NO_SUCH_ELEMENT);
      check.is("room(0, " + odd + ")", Check.room(x, 0, odd), Check.NO_SUCH_ELEMENT);
    }
  }

  private static void promise10Mapped() {
    ClosedRooms x = Check.house();
    check.is("mapped(0, 0)", x.mapped(0, 0), 2);
    check.is("mapped(0, 1)", x.mapped(0, 1), 3);
    check.is("mapped(0, 3)", x.mapped(0, 3), N);
    check.is("beyond SIZE", x.mapped(0, 4), N);
    x.map(0, 3, 7);
    x.map(0, 0, N);
    check.is("told", x.mapped(0, 3), 7);
    check.is("told none", x.mapped(0, 0), N);
    x.remove(4);
    check.is("REMOVE tells no MAP", x.mapped(0, 2), 4);
    for (int odd : ODD) {
      check.is("mapped(" + odd + ", 0)", x.mapped(odd, 0), N);
      check.is("mapped(0, " + odd + ")", x.mapped(0, odd), N);
    }
    check.is("mapped(1, 0)", x.mapped(1, 0), N);
    x.create(4);
    check.is("a new ROOM's MAP tells none", x.mapped(1, 0), N);
  }

  private static void coreIs(ClosedRooms x, int core, int... due) {
    for (int i = 0; i < due.length; i++) check.is("core(" + core + ", " + i + ")", x.core(core, i), due[i]);
  }

  private static void promise11Core() {
    ClosedRooms x = Check.house();
    coreIs(x, 0, 0, N, N, N, 0);
    x.tell(0, 33);
    x.track(0);
    x.enter(0, 0, 0);
    coreIs(x, 0, 33, 0, 2, 1, 0);
    x.touch(0, 1, 0);
    x.touch(0, 2, 0);
    coreIs(x, 0, 60, 0, 2, 1, 2);
    x.track(0);
    coreIs(x, 0, 60, 0, 2, 1, 2);
    x.leave(0);
    coreIs(x, 0, 60, N, N, N, 0);
    coreIs(x, 2, 0, N, N, N, 0);
    check.is("core(3, 0)", x.core(3, 0), H);
    check.is("core(0, 5)", x.core(0, 5), H);
    for (int odd : ODD) {
      check.is("core(" + odd + ", 0)", x.core(odd, 0), H);
      check.is("core(0, " + odd + ")", x.core(0, odd), H);
    }
    check.is("core(1, 0) of one", Check.machine("cores 1").core(1, 0), H);
  }

  private static void seenIs(ClosedRooms x, int core, int... pairs) {
    for (int i = 0; i < pairs.length / 2; i++) {
      check.is("seen(" + core + ", " + i + ", 0)", x.seen(core, i, 0), pairs[2 * i]);
      check.is("seen(" + core + ", " + i + ", 1)", x.seen(core, i, 1), pairs[2 * i + 1]);
    }
    check.is("no more seen", x.seen(core, pairs.length / 2, 0), N);
    check.is("how many seen", x.core(core, 4), pairs.length / 2);
  }

  private static void promise12Seen() {
    for (int hold = 1; hold <= 3; hold++) {
      ClosedRooms x = Check.machine("pages 8;hold " + hold);
      x.create(5);
      x.add(0, 0, 1, 1, 0);
      for (int i = 1; i <= 4; i++) x.add(0, i, 0, 1, i);
      x.seal(0, Check.room(x, 0, 3));
      seenIs(x, 0);
      x.enter(0, 0, 0);
      seenIs(x, 0);
      x.touch(0, 4, 0);
      seenIs(x, 0, 4, 5);
      x.touch(0, 2, 0);
      x.touch(0, 4, 0);
      if (hold == 1) seenIs(x, 0, 4, 5);
      else seenIs(x, 0, 4, 5, 2, 3);
      x.touch(0, 1, 0);
      if (hold == 1) seenIs(x, 0, 1, 2);
      else if (hold == 2) seenIs(x, 0, 2, 3, 1, 2);
      else seenIs(x, 0, 4, 5, 2, 3, 1, 2);
      x.touch(0, 3, 0);
      if (hold == 1) seenIs(x, 0, 3, 4);
      else if (hold == 2) seenIs(x, 0, 1, 2, 3, 4);
      else seenIs(x, 0, 2, 3, 1, 2, 3, 4);
      check.is("seen what 2", x.seen(0, 0, 2), N);
      check.is("another CORE", x.seen(1, 0, 0), N);
      check.is("no such CORE", x.seen(2, 0, 0), N);
      for (int odd : ODD) {
        check.is("seen(" + odd + ", 0, 0)", x.seen(odd, 0, 0), N);
        check.is("seen(0, " + odd + ", 0)", x.seen(0, odd, 0), N);
        check.is("seen(0, 0, " + odd + ")", x.seen(0, 0, odd), N);
      }
      x.trap(0);
      seenIs(x, 0);
    }
  }

  private static void copyIs(ClosedRooms x, int copy, int... due) {
    for (int i = 0; i < due.length; i++) check.is("copyOf(" + copy + ", " + i + ")", x.copyOf(copy, i), due[i]);
  }

  private static void promise13CopyOf() {
    ClosedRooms x = Check.houseWithCopy();
    copyIs(x, 0, 1, 1, 2, 3, 1, 0);
    x.create(2);
    x.evict(3, 1, 3);
    copyIs(x, 1, 2, N, 1, 0, 2, 0);
    x.change(1, 5);
    copyIs(x, 1, 2, N, 1, 0, 2, 1);
    x.block(2);
    x.track(0);
    x.evict(2, 1, 1);
    copyIs(x, 2, 1, 0, 3, 4, 3, 0);
    check.is("copyOf(3, 0)", x.copyOf(3, 0), H);
    check.is("copyOf(0, 6)", x.copyOf(0, 6), H);
    for (int odd : ODD) {
      check.is("copyOf(" + odd + ", 0)", x.copyOf(odd, 0), H);
      check.is("copyOf(0, " + odd + ")", x.copyOf(0, odd), H);
    }
    for (int i = 3; i < 12; i++) x.twice(0);
    copyIs(x, 11, 1, 1, 2, 3, 1, 0);
    check.is("copyOf(12, 0)", x.copyOf(12, 0), H);
    check.is("no MACHINE", new ClosedRooms().copyOf(0, 0), H);
  }

  private static void promise36Status() {
    ClosedRooms x = Check.house();
    check.is("all done so far", Check.status(x), 0);
    x.leave(9);
    x.create(0);
    x.leave(0);
    x.leave(1);
    for (int i = 0; i < 3; i++) x.slots();
    x.slots();
    x.seal(0, 0);
    check.is("of several the first", x.add(5, 9, 9, 9, 9), N);
    check.is("STATUS", Check.status(x), 21310);
    x.undo();
    x.undo();
    check.is("STATUS is not UNDONE", Check.status(x), 21310);
    x.report(9, 9);
    x.undo();
    x.back();
    x.text(3);
    x.waits(99);
    x.run(0, 0);
    check.is("others are no ACTS", Check.status(x), 21310);
    check.is("status(5)", x.status(5), N);
    for (int odd : ODD) check.is("status(" + odd + ")", x.status(odd), N);
  }

  private static void logIs(ClosedRooms x, int i, int sort, int first, int answer) {
    check.is("log(" + i + ", 0)", x.log(i, 0), sort);
    check.is("log(" + i + ", 1)", x.log(i, 1), first);
    check.is("log(" + i + ", 2)", x.log(i, 2), answer);
  }

  private static void promise38Log() {
    ClosedRooms x = Check.house();
    logIs(x, 0, 4, 0, 1);
    logIs(x, 1, 2, 0, 4);
    logIs(x, 4, 1, N, 1);
    logIs(x, 5, 0, 4, 0);
    check.is("log(6, 0)", x.log(6, 0), H);
    x.create(0);
    x.leave(0);
    logIs(x, 0, 4, 0, 1);
    x.undo();
    logIs(x, 0, 2, 0, 4);
    check.is("UNDONE from the LOG", x.count(3), 5);
    check.is("log(0, 3)", x.log(0, 3), H);
    for (int odd : ODD) {
      check.is("log(" + odd + ", 0)", x.log(odd, 0), H);
      check.is("log(0, " + odd + ")", x.log(0, odd), H);
    }
    check.is("no MACHINE", new ClosedRooms().log(0, 0), H);
  }

  private static void promise38LogOfSixty() {
    ClosedRooms x = Check.machine("key 1");
    for (int i = 1; i <= 60; i++) x.tell(0, i);
    check.is("sixty", x.count(3), 60);
    logIs(x, 59, 19, 0, 0);
    for (int i = 61; i <= 75; i++) x.tell(0, i);
    check.is("sixty still", x.count(3), 60);
    logIs(x, 0, 19, 0, 74);
    logIs(x, 59, 19, 0, 15);
    check.is("log(60, 0)", x.log(60, 0), H);
    for (int i = 0; i < 5; i++) x.undo();
    check.is("sixty as before", x.count(3), 60);
    logIs(x, 0, 19, 0, 69);
    logIs(x, 59, 19, 0, 10);
    for (int i = 0; i < 35; i++) x.undo();
    check.is("as long as it was", x.count(3), 35);
    logIs(x, 0, 19, 0, 34);
    logIs(x, 34, 19, 0, 0);
  }

  private static void promise38EverySort() {
    ClosedRooms x = Check.machine("pages 10");
    check.is("create", x.create(3), 0);
    logIs(x, 0, 0, 3, 0);
    x.slots();
    logIs(x, 0, 1, N, 1);
    x.add(0, 1, 1, 4, 0);
    logIs(x, 0, 2, 0, 2);
    int measure = x.extend(0, 1);
    logIs(x, 0, 3, 0, measure);
    x.seal(0, measure);
    logIs(x, 0, 4, 0, 1);
    x.enter(1, 0, 1);
    logIs(x, 0, 5, 1, 2);
    x.trap(1);
    logIs(x, 0, 7, 1, 2);
    x.tell(1, 44);
    logIs(x, 0, 19, 1, 0);
    x.resume(1, 0, 1);
    logIs(x, 0, 8, 1, 0);
    x.leave(1);
    logIs(x, 0, 6, 1, 0);
    x.block(2);
    logIs(x, 0, 10, 2, 0);
    x.track(0);
    logIs(x, 0, 11, 0, 1);
    x.evict(2, 1, 3);
    logIs(x, 0, 12, 2, 0);
    x.twice(0);
    logIs(x, 0, 16, 0, 1);
    x.change(1, 5);
    logIs(x, 0, 17, 1, 0);
    x.drop(1);
    logIs(x, 0, 18, 1, 1);
    x.load(0, 1, 3);
    logIs(x, 0, 13, 0, 2);
    x.map(0, 2, 7);
    logIs(x, 0, 15, 0, N);
    x.remove(2);
    logIs(x, 0, 14, 2, 3);
    x = Check.house();
    x.enter(0, 0, 0);
    x.touch(0, 2, 0);
    logIs(x, 0, 9, 0, 60);
  }

  private static void promise51All() {
    ClosedRooms x = Check.houseWithCopy();
    int[] due = {232, 1, 0, 1, 1, 1, 3, 0, 0};
    for (int i = 0; i < due.length; i++) check.is("all(" + i + ")", x.all(i), due[i]);
    x.create(1);
    x.create(1);
    x.slots();
    x.enter(1, 0, 0);
    x.twice(0);
    x.twice(0);
    x.drop(1);
    x.block(4);
    x.block(2);
    int[] then = {128, 7, 2, 5, 1, 3, 7, 20, 0};
    for (int i = 0; i < then.length; i++) check.is("all(" + i + ") then", x.all(i), then[i]);
    check.is("all(9)", x.all(9), H);
    for (int odd : ODD) check.is("all(" + odd + ")", x.all(odd), H);
    for (int i = 0; i < 9; i++) check.is("all without MACHINE", new ClosedRooms().all(i), H);
    ClosedRooms y = Check.machine("pages 3");
    int[] empty = {7, 0, 0, 0, 0, 0, 0, 0, N};
    for (int i = 0; i < empty.length; i++) check.is("all(" + i + ") of an empty one", y.all(i), empty[i]);
  }

  private static void promise51FullestRoom() {
    ClosedRooms x = Check.machine("pages 10");
    x.create(8);
    x.create(8);
    check.is("of several the lowest", x.all(8), 0);
    x.add(1, 0, 0, 1, 1);
    check.is("most pages", x.all(8), 1);
    x.add(0, 0, 0, 1, 1);
    check.is("as many", x.all(8), 0);
    x.remove(x.mapped(0, 0));
    x.remove(x.mapped(1, 0));
    x.slots();
    x.evict(0, 2, 0);
    check.is("AWAY has none here", x.all(8), 1);
    x.evict(1, 2, 1);
    check.is("none has any: the lowest that is there", x.all(8), 0);
  }

  private static void promise51TheFirstOfEach() {
    ClosedRooms x = Check.machine("pages 10");
    x.slots();
    x.create(2);
    check.is("SLOTS in PAGE 0", x.all(6), 4);
    x.add(0, 0, 0, 1, 5);
    x.block(2);
    x.track(0);
    x.evict(2, 0, 0);
    check.is("one of PAGE 0 is taken", x.all(6), 3);
    check.is("PAGE 0 has its VERSION", x.old(), 0);
    x.load(0, 0, 0);
    x.remove(0);
    x.add(0, 1, 1, 1, 7);
    check.is("a page in PAGE 0", x.page(0, 2), 1);
    int measure = Check.room(x, 0, 3);
    check.is("EXTEND by PAGE 0", x.extend(0, 1), 31 * measure + 1007);
    x.seal(0, Check.room(x, 0, 3));
    x.enter(0, 0, 1);
    check.is("CORE 0 inside", x.all(2), 1);
    x.block(0);
    check.is("PAGE 0 BLOCKED", x.all(7), 1);
    x.leave(0);
    x.track(0);
    check.is("PAGE 0 is the VICTIM", x.victim(), 0);
  }

  private static void promise54Count() {
    ClosedRooms x = Check.house();
    Check.text(x, 1, "slots");
    Check.text(x, 1, "slots");
    Check.put(x, "abc");
    x.undo();
    int[] due = {8, 2, 3, 5, 5};
    for (int i = 0; i < due.length; i++) check.is("count(" + i + ")", x.count(i), due[i]);
    check.is("count(5)", x.count(5), H);
    for (int odd : ODD) check.is("count(" + odd + ")", x.count(odd), H);
    for (int i = 0; i < 50; i++) x.tell(0, i + 1);
    check.is("as many as can be UNDONE", x.count(4), 40);
    check.is("LOG", x.count(3), 55);
  }
}
