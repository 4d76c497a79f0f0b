/** Promises 14 to 33: the ACTS, what they answer, change and refuse. */
public final class ActsTest {
  private static final Check check = new Check("ActsTest");
  private static final int N = Check.N;
  private static final int H = Check.H;
  private static final int[] ODD = {-1, Check.MIN, Check.MAX};

  public static void main(String[] args) {
    promise14Create();
    promise14NothingOfAnother();
    promise15Slots();
    promise16Add();
    promise16AddAnew();
    promise16AddRefused();
    promise17Extend();
    promise18Seal();
    promise19Enter();
    promise19EnterFound();
    promise20Leave();
    promise21Trap();
    promise22Resume();
    promise22ResumeRefused();
    promise23Touch();
    promise23TouchFound();
    promise23TouchOrder();
    promise24Block();
    promise25Track();
    promise26Evict();
    promise26EvictWaits();
    promise26EvictRoot();
    promise26EvictRefused();
    promise27Load();
    promise27LoadEntry();
    promise27LoadFound();
    promise27LoadRefused();
    promise28Remove();
    promise29Map();
    promise30Twice();
    promise31Change();
    promise32Drop();
    promise33Tell();
    withoutMachine();
    check.finish();
  }

  /** That the call was refused by this STATUS (what it answered is told) and changed nothing but STATUS. */
  private static void refused(ClosedRooms x, String call, int answer, int due, int status, int before) {
    check.is(call, answer, due);
    int power = 1;
    for (int i = 4; i > status; i--) power *= 10;
    check.is(call + ": STATUS", Check.status(x) - before, power);
  }

  private static void promise14Create() {
    ClosedRooms x = Check.machine("pages 10");
    check.is("create(8)", x.create(8), 0);
    check.is("MEASURE", Check.room(x, 0, 3), 15);
    check.is("create(1)", x.create(1), 1);
    check.is("create(2)", x.create(2), 2);
    check.is("ROOT 2", x.page(2, 0) * 10 + x.page(2, 1), 12);
    int was = Check.status(x);
    refused(x, "create(0)", x.create(0), N, 1, was);
    was = Check.status(x);
    refused(x, "create(9)", x.create(9), N, 1, was);
    for (int odd : ODD) {
      was = Check.status(x);
      refused(x, "create(" + odd + ")", x.create(odd), N, 1, was);
    }
    x.remove(1);
    check.is("the lowest ROOM", x.create(3), 1);
    check.is("the lowest FREE PAGE", x.page(1, 0) * 10 + x.page(1, 1), 11);
    check.is("SERIAL", Check.room(x, 1, 0), 4);
    x.create(4);
    was = Check.status(x);
    refused(x, "a fifth", x.create(4), N, 3, was);
    was = Check.status(x);
    refused(x, "a fifth out of bounds", x.create(9), N, 1, was);
    x = Check.machine("pages 3");
    x.create(1);
    x.create(1);
    x.create(1);
    was = Check.status(x);
    refused(x, "no FREE PAGE", x.create(1), N, 3, was);
  }

  /** A ROOM that comes where one was has nothing of it. */
  private static void promise14NothingOfAnother() {
    ClosedRooms x = Check.houseWithCopy();
    x.remove(4);
    x.remove(2);
    x.remove(0);
    check.is("create", x.create(5), 0);
    int[] due = {2, 5, 1, 12, 0, 0, 0, 0, 0};
    for (int what = 0; what < 9; what++) check.is("a new ROOM", Check.room(x, 0, what), due[what]);
    for (int i = 0; i < 5; i++) check.is("its MAP", x.mapped(0, i), N);
    check.is("a ROOT where a PLAIN page was", x.create(1) + x.page(2, 0), 2);
    x.evict(2, 1, 2);
    check.is("its VALUE", x.change(1, 7), 0);
    x.remove(0);
    x = Check.machine("pages 3");
    x.create(1);
    x.add(0, 0, 0, 1, 99);
    x.remove(1);
    x.slots();
    x.remove(1);
    x.create(1);
    x.slots();
    x.evict(1, 2, 0);
    check.is("the VALUE of a ROOT", x.change(0, 7), 0);
  }

  private static void promise15Slots() {
    ClosedRooms x = Check.machine("pages 3");
    check.is("slots", x.slots(), 0);
    check.is("slots", x.slots(), 1);
    check.is("slots", x.slots(), 2);
    int was = Check.status(x);
    refused(x, "no FREE PAGE", x.slots(), N, 3, was);
    x.remove(1);
    check.is("the lowest", x.slots(), 1);
    for (int i = 0; i < 4; i++) check.is("empty", x.version(1, i), 0);
  }

  private static void promise16Add() {
    ClosedRooms x = Check.machine("pages 10");
    x.create(8);
    int measure = 15;
    check.is("add", x.add(0, 7, 0, 7, 999), 1);
    measure = 31 * measure + 64 * 7 + 7;
    check.is("MEASURE", Check.room(x, 0, 3), measure);
    check.is("add", x.add(0, 0, 1, 1, 0), 2);
    measure = 31 * measure + 8 + 1;
    check.is("MEASURE", Check.room(x, 0, 3), measure);
    check.is("MAP", x.mapped(0, 7) * 10 + x.mapped(0, 0), 12);
    check.is("here", Check.room(x, 0, 7), 129);
    x.remove(1);
    x.slots();
    check.is("again", x.add(0, 7, 1, 2, 5), 3);
    check.is("MAP again", x.mapped(0, 7), 3);
    check.is("KIND", x.page(3, 0), 3);
    for (int i = 0; i < 40; i++) {
      x.remove(3);
      x.add(0, 7, 0, 5, 5);
      if (i == 0) measure = 31 * measure + 64 * 7 + 8 + 2;
      measure = 31 * measure + 64 * 7 + 5;
    }
    check.is("MEASURE goes round", Check.room(x, 0, 3), measure);
  }

  /** A page that comes where an ENTRY left in haste was, BLOCKED, is none of both. */
  private static void promise16AddAnew() {
    ClosedRooms x = Check.machine("pages 3;cores 1");
    x.create(2);
    x.add(0, 0, 1, 1, 9);
    x.seal(0, Check.room(x, 0, 3));
    x.enter(0, 0, 0);
    x.trap(0);
    x.block(1);
    x.remove(1);
    x.create(1);
    x.remove(1);
    x.remove(0);
    x.create(1);
    x.add(0, 0, 1, 1, 9);
    check.is("idle", x.page(1, 5), 0);
    check.is("not BLOCKED", x.page(1, 4), 0);
    x.seal(0, Check.room(x, 0, 3));
    check.is("enter", x.enter(0, 0, 0), 1);
  }

  private static void promise16AddRefused() {
    ClosedRooms x = Check.machine("pages 5");
    x.create(2);
    x.slots();
    for (int odd : ODD) {
      int was = Check.status(x);
      refused(x, "no such ROOM", x.add(odd, 0, 0, 1, 1), N, 0, was);
      was = Check.status(x);
      refused(x, "ADDRESS", x.add(0, odd, 0, 1, 1), N, 1, was);
      was = Check.status(x);
      refused(x, "KIND", x.add(0, 0, odd, 1, 1), N, 1, was);
      was = Check.status(x);
      refused(x, "RIGHTS", x.add(0, 0, 0, odd, 1), N, 1, was);
      was = Check.status(x);
      refused(x, "VALUE", x.add(0, 0, 0, 1, odd), N, 1, was);
    }
    int was = Check.status(x);
    refused(x, "ROOM 1", x.add(1, 0, 0, 1, 1), N, 0, was);
    was = Check.status(x);
    refused(x, "ADDRESS 2", x.add(0, 2, 0, 1, 1), N, 1, was);
    was = Check.status(x);
    refused(x, "KIND 2", x.add(0, 0, 2, 1, 1), N, 1, was);
    was = Check.status(x);
    refused(x, "RIGHTS 0", x.add(0, 0, 0, 0, 1), N, 1, was);
    was = Check.status(x);
    refused(x, "RIGHTS 8", x.add(0, 0, 0, 8, 1), N, 1, was);
    was = Check.status(x);
    refused(x, "VALUE 1000", x.add(0, 0, 0, 1, 1000), N, 1, was);
    x.evict(0, 1, 0);
    was = Check.status(x);
    refused(x, "AWAY", x.add(0, 0, 0, 1, 1), N, 2, was);
    x.load(0, 1, 0);
    x.add(0, 0, 0, 1, 1);
    was = Check.status(x);
    refused(x, "has a page here", x.add(0, 0, 0, 1, 1), N, 2, was);
    x.block(x.mapped(0, 0));
    x.track(0);
    x.evict(x.mapped(0, 0), 1, 0);
    was = Check.status(x);
    refused(x, "has a page out", x.add(0, 0, 0, 1, 1), N, 2, was);
    x.slots();
    x.slots();
    x.slots();
    was = Check.status(x);
    refused(x, "no FREE PAGE", x.add(0, 1, 0, 1, 1), N, 3, was);
    was = Check.status(x);
    refused(x, "of several the first", x.add(0, 0, 0, 1, 1), N, 2, was);
    x.seal(0, Check.room(x, 0, 3));
    was = Check.status(x);
    refused(x, "not BUILT", x.add(0, 1, 0, 1, 1), N, 2, was);
  }

  private static void promise17Extend() {
    ClosedRooms x = Check.machine("pages 5");
    x.create(3);
    x.slots();
    x.add(0, 1, 0, 1, 321);
    int measure = Check.room(x, 0, 3);
    int was = Check.status(x);
    refused(x, "no page", x.extend(0, 0), H, 2, was);
    x.map(0, 1, 0);
    check.is("extend, whatever MAP tells", x.extend(0, 1), 31 * measure + 1321);
    measure = 31 * measure + 1321;
    check.is("extend twice", x.extend(0, 1), 31 * measure + 1321);
    check.is("MEASURE", Check.room(x, 0, 3), 31 * measure + 1321);
    for (int odd : ODD) {
      was = Check.status(x);
      refused(x, "no such ROOM", x.extend(odd, 1), H, 0, was);
      was = Check.status(x);
      refused(x, "ADDRESS", x.extend(0, odd), H, 1, was);
    }
    was = Check.status(x);
    refused(x, "ADDRESS 3", x.extend(0, 3), H, 1, was);
    x.block(2);
    x.track(0);
    check.is("a BLOCKED one", x.extend(0, 1) != H, true);
    x.evict(2, 1, 0);
    was = Check.status(x);
    refused(x, "out", x.extend(0, 1), H, 2, was);
    x.evict(0, 1, 1);
    was = Check.status(x);
    refused(x, "AWAY", x.extend(0, 1), H, 2, was);
    x = Check.house();
    was = Check.status(x);
    refused(x, "SEALED", x.extend(0, 1), H, 2, was);
  }

  private static void promise18Seal() {
    ClosedRooms x = Check.machine("pages 5");
    x.create(1);
    x.create(2);
    int was = Check.status(x);
    refused(x, "another MEASURE", x.seal(1, 8), N, 4, was);
    check.is("still BUILT", Check.room(x, 1, 2), 1);
    check.is("seal", x.seal(1, 9), 2);
    check.is("SEALED", Check.room(x, 1, 2), 2);
    was = Check.status(x);
    refused(x, "SEALED already", x.seal(1, 9), N, 2, was);
    was = Check.status(x);
    refused(x, "of several the first", x.seal(1, 8), N, 2, was);
    for (int odd : ODD) {
      was = Check.status(x);
      refused(x, "no such ROOM", x.seal(odd, 8), N, 0, was);
      was = Check.status(x);
      refused(x, "odd MEASURE", x.seal(0, odd), N, 4, was);
    }
    x.slots();
    x.evict(0, 2, 0);
    was = Check.status(x);
    refused(x, "AWAY", x.seal(0, 8), N, 2, was);
    x.load(0, 2, 0);
    check.is("back again", x.seal(0, 8), 1);
  }

  private static void promise19Enter() {
    ClosedRooms x = Check.house();
    for (int odd : ODD) {
      int was = Check.status(x);
      refused(x, "no such CORE", x.enter(odd, 0, 0), N, 0, was);
      was = Check.status(x);
      refused(x, "no such ROOM", x.enter(0, odd, 0), N, 0, was);
      was = Check.status(x);
      refused(x, "ADDRESS", x.enter(0, 0, odd), N, 1, was);
    }
    int was = Check.status(x);
    refused(x, "CORE 3", x.enter(3, 0, 0), N, 0, was);
    was = Check.status(x);
    refused(x, "ROOM 1", x.enter(0, 1, 0), N, 0, was);
    was = Check.status(x);
    refused(x, "ADDRESS 4", x.enter(0, 0, 4), N, 1, was);
    was = Check.status(x);
    refused(x, "PLAIN", x.enter(0, 0, 1), N, 2, was);
    x.track(0);
    check.is("enter", x.enter(0, 0, 0), 2);
    check.is("inside", x.core(0, 1) * 100 + x.core(0, 2) * 10 + x.core(0, 3), 21);
    check.is("taken", x.page(2, 5), 1);
    was = Check.status(x);
    refused(x, "inside already", x.enter(0, 0, 0), N, 2, was);
    was = Check.status(x);
    refused(x, "taken", x.enter(1, 0, 0), N, 2, was);
    x.trap(0);
    was = Check.status(x);
    refused(x, "left in haste", x.enter(1, 0, 0), N, 2, was);
    x.create(1);
    x.add(1, 0, 1, 1, 1);
    was = Check.status(x);
    refused(x, "not SEALED", x.enter(0, 1, 0), N, 2, was);
    x.remove(6);
    x.seal(1, Check.room(x, 1, 3));
    x.evict(5, 1, 0);
    was = Check.status(x);
    refused(x, "AWAY", x.enter(0, 1, 0), N, 2, was);
  }

  private static void promise19EnterFound() {
    ClosedRooms x = Check.house();
    int[] others = {N, 0, 1, 3, 4, 7};
    for (int other : others) {
      x.map(0, 0, other);
      int was = Check.status(x);
      refused(x, "MAP tells " + other, x.enter(0, 0, 0), N, 4, was);
    }
    x.map(0, 3, 2);
    int was = Check.status(x);
    refused(x, "the ENTRY of another ADDRESS", x.enter(0, 0, 3), N, 4, was);
    x.map(0, 0, 2);
    x.create(1);
    x.add(1, 0, 1, 4, 0);
    x.seal(1, Check.room(x, 1, 3));
    x.map(0, 0, 6);
    was = Check.status(x);
    refused(x, "the ENTRY of another ROOM", x.enter(0, 0, 0), N, 4, was);
    x.map(0, 0, 2);
    x.block(2);
    was = Check.status(x);
    refused(x, "BLOCKED", x.enter(0, 0, 0), N, 4, was);
    x.block(3);
    was = Check.status(x);
    refused(x, "BLOCKED, but no ENTRY", x.enter(0, 0, 1), N, 2, was);
    check.is("the other ROOM", x.enter(0, 1, 0), 6);
    was = Check.status(x);
    refused(x, "inside ahead of FOUND", x.enter(0, 0, 0), N, 2, was);
  }

  private static void promise20Leave() {
    ClosedRooms x = Check.house();
    x.tell(1, 77);
    x.enter(1, 0, 0);
    x.touch(1, 1, 1);
    check.is("leave", x.leave(1), 77);
    check.is("outside", x.core(1, 1), N);
    check.is("SEES nothing", x.core(1, 4), 0);
    check.is("idle", x.page(2, 5), 0);
    check.is("REGISTER stays", x.core(1, 0), 77);
    int was = Check.status(x);
    refused(x, "outside", x.leave(1), N, 2, was);
    for (int odd : ODD) {
      was = Check.status(x);
      refused(x, "no such CORE", x.leave(odd), N, 0, was);
    }
    was = Check.status(x);
    refused(x, "CORE 3", x.leave(3), N, 0, was);
    x.enter(0, 0, 0);
    check.is("enter again", x.core(0, 1), 0);
    check.is("leave by a BLOCKED one", x.block(2) + x.leave(0), 0);
  }

  private static void promise21Trap() {
    ClosedRooms x = Check.house();
    x.tell(2, 345);
    x.enter(2, 0, 0);
    x.touch(2, 1, 1);
    check.is("trap", x.trap(2), 2);
    check.is("outside", x.core(2, 1), N);
    check.is("SEES nothing", x.core(2, 4), 0);
    check.is("left in haste", x.page(2, 5), 2);
    check.is("REGISTER is hidden", x.core(2, 0), 0);
    int was = Check.status(x);
    refused(x, "outside", x.trap(2), N, 2, was);
    for (int odd : ODD) {
      was = Check.status(x);
      refused(x, "no such CORE", x.trap(odd), N, 0, was);
    }
    was = Check.status(x);
    refused(x, "CORE 3", x.trap(3), N, 0, was);
    check.is("VALUE is the REGISTER", x.resume(0, 0, 0), 345);
  }

  private static void promise22Resume() {
    ClosedRooms x = Check.house();
    x.tell(0, 5);
    x.enter(0, 0, 0);
    x.touch(0, 2, 2);
    check.is("REGISTER", x.core(0, 0), 95);
    x.trap(0);
    x.track(0);
    x.tell(1, 9);
    check.is("resume by another CORE", x.resume(1, 0, 0), 95);
    check.is("REGISTER", x.core(1, 0), 95);
    check.is("inside", x.core(1, 1) * 100 + x.core(1, 2) * 10 + x.core(1, 3), 21);
    check.is("SEES nothing yet", x.core(1, 4), 0);
    check.is("taken", x.page(2, 5), 1);
    x.leave(1);
    x.enter(1, 0, 0);
    x.tell(0, 8);
    x.trap(1);
    check.is("resume again", x.resume(0, 0, 0), 95);
    x.leave(0);
    x.block(2);
    x.track(0);
    x.evict(2, 1, 0);
    check.is("VALUE was 0 then", x.change(0, 1), 0);
  }

  private static void promise22ResumeRefused() {
    ClosedRooms x = Check.house();
    int was = Check.status(x);
    refused(x, "idle", x.resume(0, 0, 0), N, 2, was);
    x.enter(1, 0, 0);
    was = Check.status(x);
    refused(x, "taken", x.resume(0, 0, 0), N, 2, was);
    was = Check.status(x);
    refused(x, "inside", x.resume(1, 0, 0), N, 2, was);
    x.trap(1);
    was = Check.status(x);
    refused(x, "PLAIN", x.resume(0, 0, 1), N, 2, was);
    for (int odd : ODD) {
      was = Check.status(x);
      refused(x, "no such CORE", x.resume(odd, 0, 0), N, 0, was);
      was = Check.status(x);
      refused(x, "no such ROOM", x.resume(0, odd, 0), N, 0, was);
      was = Check.status(x);
      refused(x, "ADDRESS", x.resume(0, 0, odd), N, 1, was);
    }
    x.map(0, 0, 3);
    was = Check.status(x);
    refused(x, "MAP tells another", x.resume(0, 0, 0), N, 4, was);
    x.map(0, 0, 2);
    x.block(2);
    was = Check.status(x);
    refused(x, "BLOCKED", x.resume(0, 0, 0), N, 4, was);
    check.is("still left in haste", x.page(2, 5), 2);
  }

  private static void promise23Touch() {
    ClosedRooms x = Check.house();
    x.tell(0, 999);
    x.enter(0, 0, 0);
    check.is("writes", x.touch(0, 1, 1), 999);
    check.is("goes: 7 times 999 and 60", x.touch(0, 2, 2), (7 * 999 + 60) % 1000);
    check.is("reads what was written", x.touch(0, 1, 0), 999);
    x.leave(0);
    x.tell(1, 4);
    x.enter(1, 0, 0);
    check.is("another CORE reads it", x.touch(1, 1, 0), 999);
    int was = Check.status(x);
    refused(x, "outside", x.touch(0, 1, 0), N, 2, was);
    for (int odd : ODD) {
      was = Check.status(x);
      refused(x, "no such CORE", x.touch(odd, 1, 0), N, 0, was);
      was = Check.status(x);
      refused(x, "ADDRESS", x.touch(1, odd, 0), N, 1, was);
      was = Check.status(x);
      refused(x, "HOW", x.touch(1, 1, odd), N, 1, was);
    }
    was = Check.status(x);
    refused(x, "ADDRESS 8", x.touch(1, 8, 0), N, 1, was);
    was = Check.status(x);
    refused(x, "HOW 3", x.touch(1, 1, 3), N, 1, was);
    was = Check.status(x);
    refused(x, "ADDRESS 8, outside", x.touch(0, 8, 0), N, 1, was);
    was = Check.status(x);
    refused(x, "beyond SIZE", x.touch(1, 4, 0), N, 2, was);
    was = Check.status(x);
    refused(x, "beyond SIZE", x.touch(1, 7, 0), N, 2, was);
  }

  private static void promise23TouchFound() {
    ClosedRooms x = Check.house();
    x.enter(0, 0, 0);
    int was = Check.status(x);
    refused(x, "an ENTRY", x.touch(0, 0, 2), N, 4, was);
    was = Check.status(x);
    refused(x, "MAP tells none", x.touch(0, 3, 0), N, 4, was);
    was = Check.status(x);
    refused(x, "no RIGHTS to go", x.touch(0, 1, 2), N, 4, was);
    check.is("nothing is SEEN", x.core(0, 4), 0);
    x.map(0, 1, 4);
    was = Check.status(x);
    refused(x, "MAP tells the page of another ADDRESS", x.touch(0, 1, 0), N, 4, was);
    x.map(0, 1, 3);
    check.is("touch", x.touch(0, 1, 0), 50);
    was = Check.status(x);
    refused(x, "no RIGHTS though SEEN", x.touch(0, 1, 2), N, 4, was);
    x.map(0, 1, 7);
    check.is("by the PAGE that is SEEN", x.touch(0, 1, 0), 50);
    x.block(3);
    check.is("though BLOCKED", x.touch(0, 1, 1), 50);
    x.leave(0);
    x.map(0, 1, 3);
    x.enter(0, 0, 0);
    was = Check.status(x);
    refused(x, "BLOCKED", x.touch(0, 1, 0), N, 4, was);
    for (int rights = 1; rights <= 7; rights++) {
      x = Check.machine("pages 8");
      x.create(2);
      x.add(0, 0, 1, 1, 0);
      x.add(0, 1, 0, rights, 3);
      x.seal(0, Check.room(x, 0, 3));
      x.enter(0, 0, 0);
      for (int how = 0; how < 3; how++) {
        check.is("RIGHTS " + rights + ", HOW " + how, x.touch(0, 1, how) != N, (rights >> how & 1) == 1);
      }
    }
  }

  private static void promise23TouchOrder() {
    ClosedRooms x = Check.house();
    x.create(2);
    x.add(1, 0, 1, 1, 0);
    x.add(1, 1, 0, 1, 9);
    x.seal(1, Check.room(x, 1, 3));
    x.enter(0, 0, 0);
    x.map(0, 1, 7);
    int was = Check.status(x);
    refused(x, "the page of that ADDRESS, but another ROOM", x.touch(0, 1, 0), N, 4, was);
    x.map(0, 1, 3);
    x.touch(0, 1, 0);
    x.leave(0);
    x.enter(0, 1, 0);
    check.is("another ROOM, the same ADDRESS", x.touch(0, 1, 0), 9);
  }

  private static void promise24Block() {
    ClosedRooms x = Check.house();
    check.is("block PLAIN", x.block(3), 0);
    check.is("BLOCKED", x.page(3, 4), 1);
    x.track(0);
    x.track(0);
    check.is("block an ENTRY", x.block(2), 2);
    int was = Check.status(x);
    refused(x, "BLOCKED already", x.block(3), N, 2, was);
    was = Check.status(x);
    refused(x, "ROOT", x.block(0), N, 2, was);
    was = Check.status(x);
    refused(x, "SLOTS", x.block(1), N, 2, was);
    was = Check.status(x);
    refused(x, "FREE", x.block(5), N, 0, was);
    was = Check.status(x);
    refused(x, "PAGE 8", x.block(8), N, 0, was);
    for (int odd : ODD) {
      was = Check.status(x);
      refused(x, "no such PAGE", x.block(odd), N, 0, was);
    }
  }

  private static void promise25Track() {
    ClosedRooms x = Check.house();
    check.is("track", x.track(0), 1);
    x.enter(0, 0, 0);
    check.is("a CORE inside since now", x.track(0), 2);
    int was = Check.status(x);
    refused(x, "inside since one ahead", x.track(0), N, 2, was);
    check.is("EPOCH", Check.room(x, 0, 4), 2);
    x.trap(0);
    check.is("it has left", x.track(0), 3);
    x.create(1);
    check.is("another ROOM", x.track(1), 1);
    x.evict(5, 1, 0);
    was = Check.status(x);
    refused(x, "AWAY", x.track(1), N, 2, was);
    x.load(0, 1, 0);
    check.is("EPOCH stays with the ROOM", x.track(1), 2);
    for (int odd : ODD) {
      was = Check.status(x);
      refused(x, "no such ROOM", x.track(odd), N, 0, was);
    }
    was = Check.status(x);
    refused(x, "ROOM 2", x.track(2), N, 0, was);
  }

  private static void promise26Evict() {
    ClosedRooms x = Check.house();
    int was = Check.status(x);
    refused(x, "not BLOCKED", x.evict(3, 1, 0), N, 2, was);
    x.track(0);
    x.block(3);
    was = Check.status(x);
    refused(x, "BLOCKED in the EPOCH of now", x.evict(3, 1, 0), N, 2, was);
    x.track(0);
    check.is("evict", x.evict(3, 1, 2), 0);
    check.is("VERSION in the SLOT", x.version(1, 2), 1);
    check.is("FREE", x.page(3, 0), 0);
    check.is("out", Check.room(x, 0, 8), 2);
    check.is("MAP tells it still", x.mapped(0, 1), 3);
    x.block(4);
    x.track(0);
    x.drop(0);
    check.is("the lowest place", x.evict(4, 1, 0), 0);
    check.is("VERSION 2", x.copyOf(0, 4), 2);
    check.is("VERSION 2 in the SLOT", x.version(1, 0), 2);
    check.is("VALUE", x.change(0, 1), 60);
    x.drop(0);
    x.create(1);
    x.evict(3, 1, 1);
    check.is("not changed, where a changed one was", x.copyOf(0, 5), 0);
    check.is("load", x.load(0, 1, 1), 3);
  }

  private static void promise26EvictWaits() {
    ClosedRooms x = Check.machine("pages 10;cores 3");
    x.create(6);
    x.slots();
    for (int i = 0; i < 3; i++) x.add(0, i, 1, 1, 0);
    x.add(0, 3, 0, 1, 5);
    x.seal(0, Check.room(x, 0, 3));
    x.enter(0, 0, 0);
    x.block(5);
    x.enter(1, 0, 1);
    x.track(0);
    x.enter(2, 0, 2);
    int was = Check.status(x);
    refused(x, "0 and 1 are inside since", x.evict(5, 1, 0), N, 2, was);
    x.leave(0);
    was = Check.status(x);
    refused(x, "1 is inside since", x.evict(5, 1, 0), N, 2, was);
    x.trap(1);
    check.is("2 came later", x.evict(5, 1, 0), 0);
    x.block(3);
    x.block(4);
    x.track(0);
    was = Check.status(x);
    refused(x, "2 is inside since", x.evict(3, 1, 1), N, 2, was);
    was = Check.status(x);
    refused(x, "taken", x.evict(4, 1, 1), N, 2, was);
    x.leave(2);
    check.is("an ENTRY left in haste", x.evict(3, 1, 1), 1);
    check.is("an ENTRY", x.evict(4, 1, 2), 2);
  }

  private static void promise26EvictRoot() {
    ClosedRooms x = Check.machine("pages 6");
    x.create(2);
    x.slots();
    x.add(0, 0, 0, 1, 1);
    int was = Check.status(x);
    refused(x, "other pages here", x.evict(0, 1, 0), N, 2, was);
    x.block(2);
    x.track(0);
    x.evict(2, 1, 0);
    check.is("ROOT", x.evict(0, 1, 1), 1);
    check.is("AWAY", Check.room(x, 0, 5), 1);
    check.is("what is known stays", Check.room(x, 0, 8), 1);
    check.is("SIZE stays", Check.room(x, 0, 1), 2);
    check.is("EPOCH stays", Check.room(x, 0, 4), 1);
    check.is("the ROOM is there", x.create(1), 1);
    check.is("ROOT of an empty ROOM", x.evict(0, 1, 2), 2);
    check.is("ROOT of SERIAL 2", x.copyOf(2, 0), 2);
  }

  private static void promise26EvictRefused() {
    ClosedRooms x = Check.house();
    x.block(3);
    x.block(4);
    x.track(0);
    for (int odd : ODD) {
      int was = Check.status(x);
      refused(x, "no such PAGE", x.evict(odd, 1, 0), N, 0, was);
      was = Check.status(x);
      refused(x, "no such SLOTS", x.evict(3, odd, 0), N, 0, was);
      was = Check.status(x);
      refused(x, "SLOT", x.evict(3, 1, odd), N, 1, was);
    }
    int was = Check.status(x);
    refused(x, "FREE", x.evict(5, 1, 0), N, 0, was);
    was = Check.status(x);
    refused(x, "no SLOTS", x.evict(3, 2, 0), N, 0, was);
    was = Check.status(x);
    refused(x, "FREE ones are no SLOTS", x.evict(3, 7, 0), N, 0, was);
    was = Check.status(x);
    refused(x, "SLOT 4", x.evict(3, 1, 4), N, 1, was);
    was = Check.status(x);
    refused(x, "SLOTS can't go", x.evict(1, 1, 0), N, 2, was);
    check.is("evict", x.evict(3, 1, 0), 0);
    was = Check.status(x);
    refused(x, "the SLOT is not empty", x.evict(4, 1, 0), N, 2, was);
    for (int i = 1; i < 12; i++) x.twice(0);
    was = Check.status(x);
    refused(x, "no place", x.evict(4, 1, 1), N, 3, was);
    was = Check.status(x);
    refused(x, "the SLOT ahead of the place", x.evict(4, 1, 0), N, 2, was);
    x.drop(7);
    check.is("a place", x.evict(4, 1, 1), 7);
  }

  private static void promise27Load() {
    ClosedRooms x = Check.houseWithCopy();
    x.map(0, 1, N);
    x.slots();
    check.is("load", x.load(0, 1, 0), 5);
    check.is("as it was", x.page(5, 0) * 10000 + x.page(5, 1) * 1000 + x.page(5, 2) * 100 + x.page(5, 3) * 10 + x.page(5, 4), 20130);
    check.is("the SLOT is empty", x.version(1, 0), 0);
    check.is("the COPY stays", x.copyOf(0, 4), 1);
    check.is("MAP", x.mapped(0, 1), 5);
    check.is("here", Check.room(x, 0, 7), 7);
    check.is("no more out", Check.room(x, 0, 8), 0);
    x.enter(0, 0, 0);
    check.is("VALUE", x.touch(0, 1, 0), 50);
    int was = Check.status(x);
    refused(x, "twice", x.load(0, 1, 0), N, 4, was);
    x.leave(0);
    x.block(5);
    x.track(0);
    check.is("out again", x.evict(5, 1, 0), 1);
    was = Check.status(x);
    refused(x, "the old one", x.load(0, 1, 0), N, 4, was);
    check.is("the new one", x.load(1, 1, 0), 5);
    x = Check.houseWithCopy();
    x.twice(0);
    check.is("a double is as good", x.load(1, 1, 0), 3);
  }

  private static void promise27LoadEntry() {
    ClosedRooms x = Check.house();
    x.tell(0, 432);
    x.enter(0, 0, 0);
    x.trap(0);
    x.block(2);
    x.track(0);
    x.evict(2, 1, 3);
    check.is("load", x.load(0, 1, 3), 2);
    check.is("left in haste", x.page(2, 5), 2);
    check.is("what it hid", x.resume(1, 0, 0), 432);
    x.leave(1);
    x.block(2);
    x.track(0);
    x.evict(2, 1, 3);
    x.load(1, 1, 3);
    check.is("idle", x.page(2, 5), 0);
    check.is("enter", x.enter(2, 0, 0), 2);
  }

  private static void promise27LoadFound() {
    ClosedRooms x = Check.machine("pages 6");
    x.create(2);
    x.slots();
    x.slots();
    x.add(0, 1, 0, 1, 1);
    x.block(3);
    x.track(0);
    x.evict(3, 1, 0);
    x.evict(0, 2, 3);
    int was = Check.status(x);
    refused(x, "AWAY", x.load(0, 1, 0), N, 4, was);
    was = Check.status(x);
    refused(x, "the VERSION of another", x.load(1, 1, 0), N, 4, was);
    was = Check.status(x);
    refused(x, "an empty SLOT", x.load(1, 1, 1), N, 4, was);
    x.twice(1);
    x.change(2, 5);
    x.change(2, 0);
    was = Check.status(x);
    refused(x, "changed and changed back", x.load(2, 2, 3), N, 4, was);
    check.is("ROOT", x.load(1, 2, 3), 0);
    check.is("no more AWAY", Check.room(x, 0, 5), 0);
    check.is("its page", x.load(0, 1, 0), 3);
    x.block(3);
    x.track(0);
    x.evict(3, 1, 0);
    x.remove(0);
    x.create(2);
    was = Check.status(x);
    refused(x, "another ROOM by SERIAL", x.load(3, 1, 0), N, 4, was);
    x.create(2);
    x.slots();
    x.slots();
    was = Check.status(x);
    refused(x, "no FREE PAGE ahead of FOUND", x.load(3, 1, 0), N, 3, was);
  }

  private static void promise27LoadRefused() {
    ClosedRooms x = Check.houseWithCopy();
    for (int odd : ODD) {
      int was = Check.status(x);
      refused(x, "no such COPY", x.load(odd, 1, 0), N, 0, was);
      was = Check.status(x);
      refused(x, "no such SLOTS", x.load(0, odd, 0), N, 0, was);
      was = Check.status(x);
      refused(x, "SLOT", x.load(0, 1, odd), N, 1, was);
    }
    int was = Check.status(x);
    refused(x, "COPY 1", x.load(1, 1, 0), N, 0, was);
    was = Check.status(x);
    refused(x, "COPY 12", x.load(12, 1, 0), N, 0, was);
    was = Check.status(x);
    refused(x, "no SLOTS", x.load(0, 0, 0), N, 0, was);
    was = Check.status(x);
    refused(x, "SLOT 4", x.load(0, 1, 4), N, 1, was);
    for (int i = 0; i < 4; i++) x.slots();
    was = Check.status(x);
    refused(x, "no FREE PAGE", x.load(0, 1, 0), N, 3, was);
  }

  private static void promise28Remove() {
    ClosedRooms x = Check.house();
    x.enter(0, 0, 0);
    for (int page = 2; page <= 4; page++) {
      int was = Check.status(x);
      refused(x, "a CORE is inside", x.remove(page), N, 2, was);
    }
    x.trap(0);
    int was = Check.status(x);
    refused(x, "ROOT", x.remove(0), N, 2, was);
    check.is("an ENTRY left in haste", x.remove(2), 3);
    check.is("ADDRESSES", Check.room(x, 0, 7), 6);
    check.is("MAP tells it still", x.mapped(0, 0), 2);
    x.block(3);
    check.is("PLAIN, BLOCKED", x.remove(3), 2);
    check.is("no more BLOCKED", x.all(7), 0);
    x.block(4);
    x.track(0);
    x.evict(4, 1, 0);
    was = Check.status(x);
    refused(x, "SLOTS not empty", x.remove(1), N, 2, was);
    check.is("ROOT though one is out", x.remove(0), 1);
    x.create(3);
    x.add(0, 1, 0, 1, 1);
    was = Check.status(x);
    refused(x, "ROOT and one page", x.remove(0), N, 2, was);
    x.remove(2);
    check.is("ROOT alone", x.remove(0), 1);
    check.is("the ROOM is there no more", Check.room(x, 0, 0), Check.NO_SUCH_ELEMENT);
    check.is("mapped", x.mapped(0, 0), N);
    was = Check.status(x);
    refused(x, "SLOTS never empty again", x.remove(1), N, 2, was);
    x.slots();
    check.is("SLOTS", x.remove(0), 4);
    was = Check.status(x);
    refused(x, "FREE", x.remove(0), N, 0, was);
    was = Check.status(x);
    refused(x, "PAGE 8", x.remove(8), N, 0, was);
    for (int odd : ODD) {
      was = Check.status(x);
      refused(x, "no such PAGE", x.remove(odd), N, 0, was);
    }
  }

  private static void promise29Map() {
    ClosedRooms x = Check.house();
    check.is("map", x.map(0, 0, 7), 2);
    check.is("map none", x.map(0, 0, N), 7);
    check.is("map again", x.map(0, 0, 1), N);
    int was = Check.status(x);
    refused(x, "it is so", x.map(0, 0, 1), H, 2, was);
    was = Check.status(x);
    refused(x, "it is so: none", x.map(0, 3, N), H, 2, was);
    was = Check.status(x);
    refused(x, "ADDRESS 4", x.map(0, 4, 1), H, 1, was);
    was = Check.status(x);
    refused(x, "PAGE 8", x.map(0, 0, 8), H, 1, was);
    was = Check.status(x);
    refused(x, "PAGE -2", x.map(0, 0, -2), H, 1, was);
    was = Check.status(x);
    refused(x, "ROOM 1", x.map(1, 0, 1), H, 0, was);
    for (int odd : ODD) {
      was = Check.status(x);
      refused(x, "no such ROOM", x.map(odd, 0, 0), H, 0, was);
      was = Check.status(x);
      refused(x, "ADDRESS", x.map(0, odd, 0), H, 1, was);
      if (odd == N) continue;
      was = Check.status(x);
      refused(x, "PAGE", x.map(0, 0, odd), H, 1, was);
    }
    x.create(1);
    x.evict(5, 1, 0);
    check.is("of a ROOM that is AWAY", x.map(1, 0, 5), N);
  }

  private static void promise30Twice() {
    ClosedRooms x = Check.houseWithCopy();
    check.is("twice", x.twice(0), 1);
    check.is("twice", x.twice(1), 2);
    x.change(2, 7);
    check.is("twice a changed one", x.twice(2), 3);
    check.is("it is changed", x.copyOf(3, 5), 1);
    check.is("its VALUE", x.change(3, 8), 7);
    check.is("the other is as it was", x.change(2, 8), 7);
    x.drop(1);
    check.is("the lowest place", x.twice(2), 1);
    ClosedRooms y = Check.house();
    y.tell(0, 7);
    y.enter(0, 0, 0);
    y.trap(0);
    y.block(2);
    y.track(0);
    y.evict(2, 1, 0);
    y.twice(0);
    y.load(1, 1, 0);
    check.is("left in haste", y.page(2, 5), 2);
    check.is("what it hid", y.resume(1, 0, 0), 7);
    for (int i = 4; i < 12; i++) x.twice(0);
    int was = Check.status(x);
    refused(x, "no place", x.twice(0), N, 3, was);
    was = Check.status(x);
    refused(x, "COPY 12", x.twice(12), N, 0, was);
    for (int odd : ODD) {
      was = Check.status(x);
      refused(x, "no such COPY", x.twice(odd), N, 0, was);
    }
    x.drop(5);
    was = Check.status(x);
    refused(x, "dropped", x.twice(5), N, 0, was);
  }

  private static void promise31Change() {
    ClosedRooms x = Check.houseWithCopy();
    int was = Check.status(x);
    refused(x, "it is so", x.change(0, 50), N, 2, was);
    check.is("not changed", x.copyOf(0, 5), 0);
    check.is("change", x.change(0, 0), 50);
    check.is("changed", x.copyOf(0, 5), 1);
    check.is("change back", x.change(0, 50), 0);
    check.is("changed it stays", x.copyOf(0, 5), 1);
    check.is("999", x.change(0, 999), 50);
    was = Check.status(x);
    refused(x, "1000", x.change(0, 1000), N, 1, was);
    was = Check.status(x);
    refused(x, "COPY 1", x.change(1, 5), N, 0, was);
    for (int odd : ODD) {
      was = Check.status(x);
      refused(x, "no such COPY", x.change(odd, 5), N, 0, was);
      was = Check.status(x);
      refused(x, "VALUE", x.change(0, odd), N, 1, was);
    }
  }

  private static void promise32Drop() {
    ClosedRooms x = Check.houseWithCopy();
    x.twice(0);
    check.is("drop", x.drop(0), 1);
    check.is("it is gone", x.all(3), 2);
    check.is("the SLOT keeps its VERSION", x.version(1, 0), 1);
    int was = Check.status(x);
    refused(x, "gone already", x.drop(0), N, 0, was);
    for (int odd : ODD) {
      was = Check.status(x);
      refused(x, "no such COPY", x.drop(odd), N, 0, was);
    }
    check.is("the double can be loaded", x.load(1, 1, 0), 3);
  }

  private static void promise33Tell() {
    ClosedRooms x = Check.house();
    check.is("tell", x.tell(2, 999), 0);
    check.is("tell", x.tell(2, 0), 999);
    int was = Check.status(x);
    refused(x, "it is so", x.tell(2, 0), N, 2, was);
    was = Check.status(x);
    refused(x, "1000", x.tell(2, 1000), N, 1, was);
    was = Check.status(x);
    refused(x, "CORE 3", x.tell(3, 1), N, 0, was);
    for (int odd : ODD) {
      was = Check.status(x);
      refused(x, "no such CORE", x.tell(odd, 1), N, 0, was);
      was = Check.status(x);
      refused(x, "VALUE", x.tell(0, odd), N, 1, was);
    }
    x.enter(2, 0, 0);
    was = Check.status(x);
    refused(x, "inside", x.tell(2, 5), N, 2, was);
    was = Check.status(x);
    refused(x, "inside and out of bounds", x.tell(2, -5), N, 1, was);
  }

  private static void withoutMachine() {
    ClosedRooms x = new ClosedRooms();
    int[] answers = {x.create(0), x.slots(), x.add(0, 9, 9, 9, 9), x.seal(0, 0), x.enter(0, 0, 9), x.leave(0), x.trap(0),
        x.resume(0, 0, 9), x.touch(0, 9, 9), x.block(0), x.track(0), x.evict(0, 0, 9), x.load(0, 0, 9), x.remove(0),
        x.twice(0), x.change(0, 1000), x.drop(0), x.tell(0, 1000)};
    for (int answer : answers) check.is("without MACHINE", answer, N);
    check.is("extend without MACHINE", x.extend(0, 9), H);
    check.is("map without MACHINE", x.map(0, 9, 99), H);
    check.is("all by STATUS 0", Check.status(x), 200000);
    check.is("no ACT was done", x.count(3) + x.count(4), 0);
  }
}
