/** Promises 37, 52 and 53: UNDO, IMAGES and BACK. */
public final class TimeTest {
  private static final Check check = new Check("TimeTest");
  private static final int N = Check.N;

  public static void main(String[] args) {
    promise37Undo();
    promise37Forty();
    promise37WhatIsNotSeen();
    promise37WhatCoresSee();
    promise37SinceWhen();
    promise52And53Image();
    promise53Back();
    check.finish();
  }

  private static void promise37Undo() {
    ClosedRooms x = new ClosedRooms();
    check.is("no MACHINE", x.undo(), N);
    x = Check.machine("pages 4");
    check.is("none", x.undo(), N);
    x.create(2);
    x.slots();
    x.create(0);
    check.is("a refused one is none", x.undo(), 1);
    check.is("SLOTS are UNDONE", x.page(1, 0), 0);
    check.is("create is not", x.page(0, 0), 1);
    check.is("undo", x.undo(), 0);
    check.is("no ROOM", x.all(1), 0);
    check.is("none more", x.undo(), N);
    x.create(5);
    check.is("SERIALS are given anew", Check.room(x, 0, 0), 1);
    check.is("undo the new one", x.undo(), 0);
  }

  private static void promise37Forty() {
    ClosedRooms x = Check.machine("pages 4");
    for (int i = 1; i <= 100; i++) x.tell(0, i);
    check.is("forty", x.count(4), 40);
    x.tell(0, 100);
    x.tell(0, 1000);
    x.tell(2, 1);
    for (int i = 39; i >= 0; i--) {
      check.is("undo", x.undo(), i);
      check.is("REGISTER", x.core(0, 0), 60 + i);
    }
    check.is("none more", x.undo(), N);
    check.is("REGISTER", x.core(0, 0), 60);
    for (int i = 1; i <= 30; i++) x.tell(0, i);
    for (int i = 29; i >= 20; i--) x.undo();
    for (int i = 101; i <= 110; i++) x.tell(0, i);
    check.is("thirty", x.count(4), 30);
    for (int i = 9; i >= 0; i--) x.undo();
    check.is("REGISTER", x.core(0, 0), 20);
    for (int i = 19; i >= 0; i--) check.is("undo", x.undo(), i);
    check.is("REGISTER", x.core(0, 0), 60);
    check.is("STATUS", Check.status(x), 11100);
  }

  /** VALUES, and since when a page is BLOCKED, are as they were, too. */
  private static void promise37WhatIsNotSeen() {
    ClosedRooms x = Check.house();
    x.tell(0, 333);
    x.enter(0, 0, 0);
    x.touch(0, 2, 0);
    x.touch(0, 1, 0);
    x.leave(0);
    x.tell(0, 333);
    x.enter(0, 0, 0);
    x.touch(0, 1, 1);
    x.undo();
    check.is("VALUE", x.touch(0, 1, 0), 50);
    x.touch(0, 2, 0);
    x.leave(0);
    x.undo();
    check.is("SEEN", x.seen(0, 0, 0) * 1000 + x.seen(0, 0, 1) * 100 + x.seen(0, 1, 0) * 10 + x.seen(0, 1, 1), 1324);
    x.leave(0);
    x.track(0);
    x.block(3);
    x.undo();
    x.undo();
    x.block(3);
    x.track(0);
    x.track(0);
    x.undo();
    check.is("BLOCKED in EPOCH 0", x.evict(3, 1, 0), 0);
    x.undo();
    x.undo();
    x.undo();
    x.track(0);
    x.block(3);
    check.is("BLOCKED in EPOCH 1", x.evict(3, 1, 0), N);
    x.create(1);
    x.evict(5, 1, 0);
    x.undo();
    check.is("not AWAY", Check.room(x, 1, 5), 0);
    x.evict(5, 1, 0);
    x.drop(0);
    x.undo();
    x.undo();
    x.undo();
    check.is("no ROOM 1", Check.room(x, 1, 5), Check.NO_SUCH_ELEMENT);
    check.is("undo", x.undo() >= 0, true);
    check.is("not BLOCKED", x.page(3, 4), 0);
  }

  private static void promise37WhatCoresSee() {
    ClosedRooms x = Check.machine("pages 8;hold 2");
    x.create(4);
    x.add(0, 0, 1, 1, 0);
    for (int i = 1; i < 4; i++) x.add(0, i, 0, 1, i);
    x.seal(0, Check.room(x, 0, 3));
    x.enter(0, 0, 0);
    x.touch(0, 3, 0);
    x.touch(0, 1, 0);
    x.touch(0, 2, 0);
    x.undo();
    check.is("ADDRESSES", x.seen(0, 0, 0) * 10 + x.seen(0, 1, 0), 31);
    check.is("PAGES", x.seen(0, 0, 1) * 10 + x.seen(0, 1, 1), 42);
  }

  private static void promise37SinceWhen() {
    ClosedRooms x = Check.house();
    x.track(0);
    x.block(3);
    x.enter(0, 0, 0);
    x.track(0);
    check.is("a CORE is inside since then", x.evict(3, 1, 0), N);
    x.leave(0);
    check.is("it has left", x.evict(3, 1, 0), 0);
    x.undo();
    x.undo();
    check.is("it is inside again", x.evict(3, 1, 0), N);
  }

  private static void promise52And53Image() {
    ClosedRooms x = new ClosedRooms();
    check.is("image without MACHINE", x.image(), N);
    check.is("back without MACHINE", x.back(), N);
    x = Check.houseWithCopy();
    check.is("back without IMAGE", x.back(), N);
    check.is("image", x.image(), 4);
    String then = Dump.of(x);
    int acts = x.count(4);
    check.is("ACTS can be UNDONE still", x.undo() + 1, acts);
    x.load(0, 1, 0);
    x.enter(0, 0, 0);
    x.slots();
    x.create(2);
    x.twice(0);
    x.create(0);
    check.is("back", x.back(), 4);
    check.is("all is as it was", Dump.of(x).equals(then), true);
    check.is("none can be UNDONE", x.undo(), N);
    check.is("STATUS is not: no COPY 0 to load and double, create(0)", Check.status(x), 21000);
    x.slots();
    check.is("one can", x.undo(), 0);
    x.slots();
    x.slots();
    check.is("back once more", x.back(), 4);
    check.is("all is as it was", Dump.of(x).equals(then), true);
    x.slots();
    check.is("another IMAGE", x.image(), 3);
    x.slots();
    x.slots();
    check.is("back to that", x.back(), 3);
  }

  private static void promise53Back() {
    ClosedRooms x = Check.machine("pages 4");
    x.image();
    Check.text(x, 0, "pages 0");
    check.is("a FAULT leaves the IMAGE", x.back(), 4);
    Check.text(x, 0, "pages 5");
    check.is("no IMAGE of this MACHINE", x.back(), N);
    x.slots();
    check.is("nothing changed", x.undo(), 0);
    check.is("an empty one", x.image(), 5);
    Check.text(x, 1, "slots");
    x.perform(0);
    Check.put(x, "key 5");
    check.is("back", x.back(), 5);
    check.is("SCRIPTS stay", x.count(1), 1);
    check.is("the TAPE stays", x.count(2), 5);
  }
}
