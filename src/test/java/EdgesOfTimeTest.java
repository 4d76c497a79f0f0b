/** Promises 37, 49, 50, 52 and 53, edge by edge: UNDO, RUN and DO of SCRIPTS, IMAGES and BACK. */
public final class EdgesOfTimeTest {
  private static final Check check = new Check("EdgesOfTimeTest");
  private static final int N = Check.N;
  private static final int H = Check.H;
  private static final Edge.Make NEW = Edge.NEW;
  private static final Edge.Make HOUSE = Edge.HOUSE;
  private static final Edge.Make SITE = Edge.SITE;
  private static final Edge.Make INSIDE = Edge.INSIDE;
  private static final Edge.Make WITH_COPY = Edge.WITH_COPY;
  private static final Edge.Make AWAY = Edge.AWAY;
  private static final Edge.Make TEN = Edge.machine("pages 10;cores 3");
  private static final Edge.Make FULL = Edge.after(TEN, x -> x.create(2), Edge.times(9, x -> x.slots()));
  private static final String TWELVE = "slots;slots;slots;slots;slots;slots;slots;slots;slots;slots;slots;slots";

  public static void main(String[] args) {
    promise37None();
    promise37FortyAndOne();
    promise37RefusedOnesTakeNone();
    promise37BlockedSince();
    promise37HoldStays();
    promise37WhatIsUndone();
    promise37WhatIsNotUndone();
    promise49NoSuch();
    promise49And50EachStepEachStatus();
    promise49And50MoreSteps();
    promise49And50HowMany();
    promise49RunChangesNothing();
    promise50StepsAreActs();
    promise50NumbersOfSteps();
    promise50NoStatus();
    promise52Image();
    promise53Back();
    promise53WhatComesBack();
    promise53OfThisMachine();
    check.finish();
  }

  private static void promise37None() {
    Edge e = new Edge(check, "37 (undo)");
    e.same("none: no MACHINE", NEW, x -> x.undo(), N);
    e.same("none: a new MACHINE", TEN, x -> x.undo(), N);
    e.looks("one", Edge.after(TEN, x -> x.slots()), x -> x.undo(), 0);
    e.same("none: it is UNDONE", Edge.after(TEN, x -> x.slots(), x -> x.undo()), x -> x.undo(), N);
    e.is("none: it was refused", Edge.make(TEN, x -> x.create(9)).undo(), N);
    e.same("none: BACK", Edge.after(HOUSE, x -> x.image(), x -> x.slots(), x -> x.back()), x -> x.undo(), N);
    e.looks("one behind BACK", Edge.after(HOUSE, x -> x.image(), x -> x.back(), x -> x.slots()), x -> x.undo(), 0);
    e.looks("all of six, IMAGE or not", Edge.after(HOUSE, x -> x.image()), x -> x.undo(), 5);
    e.same("none: another MACHINE", Edge.after(HOUSE, x -> Check.text(x, 0, "pages 3")), x -> x.undo(), N);
    e.looks("a FAULT is no other MACHINE", Edge.after(HOUSE, x -> Check.text(x, 0, "pages 2")), x -> x.undo(), 5);
  }

  /** The latest 40. */
  private static void promise37FortyAndOne() {
    Edge e = new Edge(check, "37 (undo)");
    for (int acts : new int[] {1, 39, 40, 41, 42, 80, 81, 82, 83, 123}) {
      ClosedRooms x = TEN.make();
      for (int i = 1; i <= acts; i++) x.tell(0, i);
      int most = Math.min(40, acts);
      e.is(acts + " ACTS, how many can be UNDONE", x.count(4), most);
      for (int i = most - 1; i >= 0; i--) {
        e.is(acts + " ACTS, how many still can be", x.undo(), i);
        e.is(acts + " ACTS, REGISTER", x.core(0, 0), acts - most + i);
      }
      e.is(acts + " ACTS, none more", x.undo(), N);
      e.is(acts + " ACTS, REGISTER stays", x.core(0, 0), acts - most);
      e.is(acts + " ACTS, count(4)", x.count(4), 0);
    }
    ClosedRooms x = TEN.make();
    for (int i = 1; i <= 50; i++) x.tell(0, i);
    for (int i = 0; i < 25; i++) x.undo();
    for (int i = 101; i <= 120; i++) x.tell(0, i);
    e.is("25 UNDONE, 20 anew", x.count(4), 35);
    for (int i = 0; i < 5; i++) x.tell(0, 121 + i);
    e.is("40 again", x.count(4), 40);
    x.tell(0, 126);
    e.is("40 still", x.count(4), 40);
    for (int i = 0; i < 40; i++) x.undo();
    e.is("40 are UNDONE", x.core(0, 0), 11);
    e.is("none more", x.undo(), N);
  }

  /** What is refused takes none of the forty, nor changes what they are UNDONE to. */
  private static void promise37RefusedOnesTakeNone() {
    Edge e = new Edge(check, "37 (undo)");
    for (int refused = 0; refused <= 3; refused++) {
      ClosedRooms x = TEN.make();
      for (int i = 1; i <= 55; i++) x.tell(0, i);
      for (int i = 0; i < refused; i++) x.create(9);
      for (int i = 39; i >= 0; i--) e.is(refused + " refused, how many still can be", x.undo(), i);
      e.is(refused + " refused, none more", x.undo(), N);
      e.is(refused + " refused, REGISTER", x.core(0, 0), 15);
    }
  }

  /** In which EPOCH a page was BLOCKED comes back, too. */
  private static void promise37BlockedSince() {
    Edge.Make blocked = Edge.after(HOUSE, x -> x.track(0), x -> x.block(3));
    Edge.Make undone = Edge.after(blocked, x -> x.remove(3), x -> x.undo());
    Edge.Make back = Edge.after(blocked, x -> x.image(), x -> x.remove(3), x -> x.back());
    Edge e = new Edge(check, "37 (undo) and 53 (back)");
    for (Edge.Make make : new Edge.Make[] {blocked, undone, back}) {
      e.refused("BLOCKED in the EPOCH now", make, x -> x.evict(3, 1, 0), N, 2);
      e.done("BLOCKED in the EPOCH ahead", Edge.after(make, x -> x.track(0)), x -> x.evict(3, 1, 0), 0, 12, 3);
      stops("BLOCKED in the EPOCH now", make, "evict 3,1,0", 0, 2);
      stops("BLOCKED in the EPOCH ahead", make, "track 0;evict 3,1,0", 2, N);
    }
  }

  /** How many ADDRESSES a CORE SEES at most is as the MACHINE tells, behind UNDO and BACK and in RUN and DO, too. */
  private static void promise37HoldStays() {
    Edge.Make undone = Edge.after(HOUSE, x -> x.slots(), x -> x.undo());
    Edge.Make back = Edge.after(HOUSE, x -> x.image(), x -> x.slots(), x -> x.back());
    for (Edge.Make make : new Edge.Make[] {HOUSE, undone, back}) {
      stops("both are SEEN", make, "enter 0,0,0;touch 0,1,0;touch 0,2,0;block 3;block 4;touch 0,1,0;touch 0,2,0", 7, N);
      ClosedRooms x = Edge.after(make, y -> y.enter(0, 0, 0), y -> y.touch(0, 1, 0), y -> y.touch(0, 2, 0)).make();
      check.is("promise 37 (undo): hold 2", x.core(0, 4), 2);
    }
    Edge.Make one = Edge.after(Edge.machine("hold 1"), x -> x.create(3), x -> x.add(0, 0, 1, 1, 0), x -> x.add(0, 1, 0, 1, 1),
        x -> x.add(0, 2, 0, 1, 1), x -> x.seal(0, Check.room(x, 0, 3)), x -> x.slots(), x -> x.undo());
    stops("one is SEEN", one, "enter 0,0,0;touch 0,1,0;touch 0,2,0;block 2;touch 0,1,0", 4, 4);
  }

  /** One of each sort of ACT; each is UNDONE to what was ahead of it, hidden things too. */
  private static final Edge.Call[] ACTS = {x -> x.create(4), x -> x.slots(), x -> x.add(0, 0, 1, 1, 9), x -> x.add(0, 1, 0, 3, 8),
      x -> x.extend(0, 0), x -> x.seal(0, Check.room(x, 0, 3)), x -> x.tell(1, 66), x -> x.enter(1, 0, 0), x -> x.touch(1, 1, 1),
      x -> x.trap(1), x -> x.resume(2, 0, 0), x -> x.leave(2), x -> x.block(3), x -> x.track(0), x -> x.evict(3, 1, 1),
      x -> x.twice(0), x -> x.change(1, 5), x -> x.load(0, 1, 1), x -> x.drop(0), x -> x.map(0, 3, 9), x -> x.remove(3)};

  private static Edge.Make behind(int acts) {
    Edge.Call[] some = new Edge.Call[acts];
    System.arraycopy(ACTS, 0, some, 0, acts);
    return Edge.after(TEN, some);
  }

  private static void promise37WhatIsUndone() {
    Edge e = new Edge(check, "37 (undo)");
    for (int acts = 0; acts <= ACTS.length; acts++) {
      for (int undone = 1; undone <= acts; undone += undone < 3 ? 1 : 5) {
        ClosedRooms x = behind(acts).make();
        for (int i = 0; i < undone; i++) x.undo();
        e.is(undone + " of " + acts + " ACTS", Dump.whole(x).equals(Dump.whole(behind(acts - undone).make())), true);
      }
    }
    ClosedRooms x = Edge.after(HOUSE, y -> y.undo(), y -> y.undo(), y -> y.add(0, 3, 0, 1, 1)).make();
    e.is("the PAGE that is FREE again is the lowest", x.page(4, 2), 3);
    x = Edge.after(WITH_COPY, y -> y.undo(), y -> y.create(1), y -> y.evict(5, 1, 3)).make();
    e.is("VERSIONS given are UNDONE, too", x.copyOf(0, 4), 1);
    x = Edge.after(TEN, y -> y.create(1), y -> y.undo(), y -> y.create(2)).make();
    e.is("SERIALS given are UNDONE, too", Check.room(x, 0, 0), 1);
  }

  private static void promise37WhatIsNotUndone() {
    Edge e = new Edge(check, "37 (undo)");
    ClosedRooms x = Edge.after(Edge.script(HOUSE, "leave 0"), y -> Check.put(y, "abc"), y -> y.image()).make();
    x.slots();
    x.create(0);
    x.create(0);
    x.undo();
    x.undo();
    e.is("STATUS", Check.status(x), 2000);
    e.is("SCRIPTS", x.count(1), 1);
    e.is("the TAPE", x.count(2), 3);
    e.is("the MACHINE", x.rule(0), 8);
    e.is("an IMAGE", x.back(), 3);
  }

  private static void promise49NoSuch() {
    Edge e = new Edge(check, "49 (run) and 50 (perform)");
    Edge.Make four = Edge.script(TEN, "slots", "slots", "slots", "slots;create 9");
    e.same("SCRIPT 3, the last: how many", four, x -> x.run(3, 0), 1);
    e.same("SCRIPT 3, the last: by which", four, x -> x.run(3, 1), 1);
    e.looks("SCRIPT 3, the last: DO", four, x -> x.perform(3), 1);
    e.same("no such SCRIPT: 4", four, x -> x.run(4, 0), H);
    e.same("no such SCRIPT: 4", four, x -> x.perform(4), N);
    e.same("no such SCRIPT: 0 of none", TEN, x -> x.run(0, 0), H);
    e.same("no such SCRIPT: 0 of none", TEN, x -> x.perform(0), N);
    e.same("no such SCRIPT: 1 of one", Edge.script(TEN, "slots"), x -> x.run(1, 1), H);
    e.same("no such SCRIPT: 1 of one", Edge.script(TEN, "slots"), x -> x.perform(1), N);
    e.same("no MACHINE", Edge.script(NEW, "slots"), x -> x.run(0, 0), H);
    e.same("no MACHINE", Edge.script(NEW, "slots"), x -> x.run(0, 1), H);
    e.same("no MACHINE", Edge.script(NEW, "slots"), x -> x.perform(0), N);
    e.same("no such what: 2", four, x -> x.run(0, 2), H);
    for (int far : Edge.FAR) {
      e.same("no such SCRIPT: " + far, four, x -> x.run(far, 0), H);
      e.same("no such what: " + far, four, x -> x.run(0, far), H);
      e.same("no such SCRIPT: " + far, four, x -> x.perform(far), N);
    }
  }

  /** How many STEPS are done, and by which STATUS the next can't be; RUN tells it, DO does it. */
  private static void stops(String what, Edge.Make make, String text, int steps, int status) {
    Edge e = new Edge(check, "49 (run) and 50 (perform), " + what + ", " + text);
    Edge.Make with = Edge.script(make, text);
    int parts = text.split(";").length;
    e.same("RUN, how many", with, x -> x.run(0, 0), steps == parts ? N : steps);
    e.same("RUN, by which", with, x -> x.run(0, 1), status);
    if (steps == 0) e.same("DO", with, x -> x.perform(0), 0);
    ClosedRooms x = with.make();
    int acts = x.count(3);
    int was = Check.status(x);
    e.is("DO", x.perform(0), steps);
    e.is("DO, ACTS in the LOG", x.count(3), acts + steps);
    e.is("DO, no STATUS", Check.status(x), was);
    for (int i = 0; i < steps; i++) x.undo();
    e.is("DO, all UNDONE", Dump.of(x).equals(Dump.of(with.make())), true);
  }

  private static void promise49And50EachStepEachStatus() {
    stops("create, out of bounds", TEN, "create 0", 0, 1);
    stops("create, out of bounds", TEN, "create 9", 0, 1);
    stops("create, no FREE PAGE", FULL, "create 1", 0, 3);
    stops("create", TEN, "create 8", 1, N);
    stops("slots, no FREE PAGE", FULL, "slots", 0, 3);
    stops("add, no such ROOM", SITE, "add 1,0,0,1,1", 0, 0);
    stops("add, out of bounds", SITE, "add 0,4,0,1,1", 0, 1);
    stops("add, out of bounds", SITE, "add 0,3,2,1,1", 0, 1);
    stops("add, out of bounds", SITE, "add 0,3,0,0,1", 0, 1);
    stops("add, out of bounds", SITE, "add 0,3,0,8,1", 0, 1);
    stops("add, not BUILT", HOUSE, "add 0,3,0,1,1", 0, 2);
    stops("add, no FREE PAGE", FULL, "add 0,0,0,1,1", 0, 3);
    stops("add", SITE, "add 0,3,1,7,999", 1, N);
    stops("extend, no such ROOM", SITE, "extend 1,0", 0, 0);
    stops("extend, out of bounds", SITE, "extend 0,4", 0, 1);
    stops("extend, its page is not here", SITE, "extend 0,3", 0, 2);
    stops("extend", SITE, "extend 0,1", 1, N);
    stops("seal, no such ROOM", SITE, "seal 1", 0, 0);
    stops("seal, no such ROOM", SITE, "seal 999", 0, 0);
    stops("seal, not BUILT", HOUSE, "seal 0", 0, 2);
    stops("seal, AWAY", AWAY, "seal 1", 0, 2);
    stops("seal tells MEASURE as it is", SITE, "seal 0", 1, N);
    stops("enter, no such CORE", HOUSE, "enter 3,0,0", 0, 0);
    stops("enter, out of bounds", HOUSE, "enter 0,0,4", 0, 1);
    stops("enter, not SEALED", SITE, "enter 0,0,0", 0, 2);
    stops("enter, FOUND", Edge.after(HOUSE, x -> x.block(2)), "enter 0,0,0", 0, 4);
    stops("enter", HOUSE, "enter 2,0,0", 1, N);
    stops("leave, no such CORE", INSIDE, "leave 3", 0, 0);
    stops("leave, outside", INSIDE, "leave 1", 0, 2);
    stops("leave", INSIDE, "leave 0", 1, N);
    stops("trap, no such CORE", INSIDE, "trap 999", 0, 0);
    stops("trap, outside", INSIDE, "trap 2", 0, 2);
    stops("trap", INSIDE, "trap 0", 1, N);
    stops("resume, no such ROOM", INSIDE, "resume 1,4,0", 0, 0);
    stops("resume, out of bounds", INSIDE, "resume 1,0,999", 0, 1);
    stops("resume, taken", INSIDE, "resume 1,0,0", 0, 2);
    stops("resume, FOUND", Edge.after(INSIDE, x -> x.trap(0), x -> x.block(2)), "resume 1,0,0", 0, 4);
    stops("resume", Edge.after(INSIDE, x -> x.trap(0)), "resume 1,0,0", 1, N);
    stops("touch, no such CORE", INSIDE, "touch 3,1,0", 0, 0);
    stops("touch, out of bounds", INSIDE, "touch 0,8,0", 0, 1);
    stops("touch, out of bounds", INSIDE, "touch 0,1,3", 0, 1);
    stops("touch, beyond SIZE", INSIDE, "touch 0,4,0", 0, 2);
    stops("touch, FOUND", INSIDE, "touch 0,1,2", 0, 4);
    stops("touch", INSIDE, "touch 0,1,1", 1, N);
  }

  private static void promise49And50MoreSteps() {
    Edge.Make tracked = Edge.after(HOUSE, x -> x.block(3), x -> x.track(0));
    stops("block, FREE", HOUSE, "block 5", 0, 0);
    stops("block, ROOT", HOUSE, "block 0", 0, 2);
    stops("block", HOUSE, "block 3", 1, N);
    stops("track, no such ROOM", HOUSE, "track 1", 0, 0);
    stops("track, AWAY", AWAY, "track 1", 0, 2);
    stops("track", HOUSE, "track 0", 1, N);
    stops("evict, no SLOTS", tracked, "evict 3,0,0", 0, 0);
    stops("evict, out of bounds", tracked, "evict 3,1,4", 0, 1);
    stops("evict, it can't go", HOUSE, "evict 3,1,0", 0, 2);
    stops("evict, no place", Edge.after(WITH_COPY, x -> x.block(4), x -> x.track(0), Edge.times(11, x -> x.twice(0))), "evict 4,1,1", 0, 3);
    stops("evict", tracked, "evict 3,1,3", 1, N);
    stops("load, no such COPY", WITH_COPY, "load 1,1,0", 0, 0);
    stops("load, no such COPY", WITH_COPY, "load 12,1,0", 0, 0);
    stops("load, out of bounds", WITH_COPY, "load 0,1,4", 0, 1);
    stops("load, no FREE PAGE", Edge.after(WITH_COPY, Edge.times(4, x -> x.slots())), "load 0,1,0", 0, 3);
    stops("load, FOUND", WITH_COPY, "load 0,1,1", 0, 4);
    stops("load", WITH_COPY, "load 0,1,0", 1, N);
    stops("remove, FREE", HOUSE, "remove 7", 0, 0);
    stops("remove, a ROOT with other pages", HOUSE, "remove 0", 0, 2);
    stops("remove", HOUSE, "remove 1", 1, N);
    stops("map, no such ROOM", HOUSE, "map 1,0,0", 0, 0);
    stops("map, out of bounds", HOUSE, "map 0,4,0", 0, 1);
    stops("map, no such PAGE", HOUSE, "map 0,0,8", 0, 1);
    stops("map, it is so", HOUSE, "map 0,0,2", 0, 2);
    stops("map", HOUSE, "map 0,0,7", 1, N);
  }

  private static void promise49And50HowMany() {
    stops("twelve of twelve", Edge.machine("pages 3"), "create 1;remove 0;create 1;remove 0;create 1;remove 0;create 1;remove 0;create 1;remove 0;create 1;remove 0",
        12, N);
    stops("twelve of twelve, the last PAGE", Edge.machine("pages 10"), "create 1;remove 0;" + TWELVE.substring(12), 12, N);
    stops("ten of twelve", Edge.machine("pages 10"), TWELVE, 10, 3);
    stops("three of twelve", Edge.machine("pages 3"), TWELVE, 3, 3);
    stops("the last of twelve", Edge.machine("pages 3"), "create 1;remove 0;create 1;remove 0;create 1;remove 0;create 1;remove 0;create 1;remove 0;create 1;seal 1", 11, 0);
    stops("the first that can't be", HOUSE, "leave 0;create 9;seal 3", 0, 2);
    stops("a STEP makes the next one possible", Edge.machine("pages 4"), "create 2;slots;add 0,0,1,1,5;seal 0;enter 0,0,0;trap 0;resume 1,0,0;leave 1;block 2;track 0;evict 2,1,0;load 0,1,0", 12, N);
    stops("a STEP makes the next one impossible", HOUSE, "enter 0,0,0;enter 0,0,0", 1, 2);
    stops("and FOUND", HOUSE, "block 2;enter 0,0,0", 1, 4);
    stops("VERSIONS given in it", HOUSE, "block 3;track 0;evict 3,1,0;load 0,1,0;load 0,1,0", 4, 4);
    stops("seal tells MEASURE as the STEPS ahead made it", SITE, "add 0,3,0,7,999;extend 0,3;seal 0;seal 0", 3, 2);
  }

  private static void promise49RunChangesNothing() {
    Edge e = new Edge(check, "49 (run)");
    Edge.Make with = Edge.script(WITH_COPY, "load 0,1,0;create 2;slots;block 4;track 0;enter 2,0,0;touch 2,1,1;map 0,0,5", "leave 0");
    e.same("all can be", with, x -> x.run(0, 0), N);
    e.same("all can be", with, x -> x.run(0, 1), N);
    e.same("RUN, RUN", with, x -> x.run(0, 0) + x.run(0, 1) + x.run(1, 0) + x.run(1, 1), 0);
    ClosedRooms x = with.make();
    x.run(0, 0);
    e.is("RUN ahead of DO", x.perform(0), 8);
    e.is("from as it is now", x.run(0, 0), 0);
    e.is("from as it is now", x.run(0, 1), 4);
    for (int i = 0; i < 8; i++) x.undo();
    e.is("RUN ahead and behind is not UNDONE", Dump.whole(x).equals(Dump.whole(with.make())), true);
  }

  private static void promise50StepsAreActs() {
    Edge e = new Edge(check, "50 (perform)");
    ClosedRooms x = Edge.script(HOUSE, "enter 0,0,0;touch 0,1,0;trap 0;seal 0", "block 3;track 0;evict 3,1,2;map 0,3,7").make();
    e.is("up to there", x.perform(0), 3);
    int[][] log = {{7, 0, 2}, {9, 0, 50}, {5, 0, 2}, {4, 0, 1}};
    for (int i = 0; i < log.length; i++) {
      for (int what = 0; what < 3; what++) e.is("the LOG, " + i + ", " + what, x.log(i, what), log[i][what]);
    }
    e.is("no STATUS", Check.status(x), 0);
    e.is("all of them", x.perform(1), 4);
    e.is("they can be UNDONE one by one", x.undo(), 12);
    e.is("the last is UNDONE", x.mapped(0, 3), N);
    e.is("the one ahead is not", x.version(1, 2), 1);
    x = Edge.script(TEN, "create 1;remove 0;create 1;remove 0;create 1;remove 0;create 1;remove 0;create 1;remove 0;create 1;remove 0").make();
    for (int i = 1; i <= 6; i++) {
      e.is("twelve more", x.perform(0), 12);
      e.is("LOG, 60 at most", x.count(3), Math.min(60, 12 * i));
      e.is("40 at most can be UNDONE", x.count(4), Math.min(40, 12 * i));
      e.is("SERIALS given", x.all(5), 6 * i);
    }
  }

  /** Each number of a STEP is told to its ACT in its place. */
  private static void promise50NumbersOfSteps() {
    Edge e = new Edge(check, "50 (perform)");
    ClosedRooms x = Edge.script(TEN, "create 8;add 0,7,1,6,543;extend 0,7;map 0,5,9;map 0,4,0").make();
    e.is("DO", x.perform(0), 5);
    int[] due = {3, 0, 7, 6, 0, 0};
    for (int what = 0; what < 6; what++) e.is("add, what " + what, x.page(1, what), due[what]);
    e.is("its VALUE, by extend", Check.room(x, 0, 3), 31 * (31 * 15 + 64 * 7 + 8 + 6) + 1543);
    e.is("map", x.mapped(0, 5) * 10 + x.mapped(0, 4), 90);
  }

  private static void promise50NoStatus() {
    Edge e = new Edge(check, "50 (perform)");
    String[] texts = {"leave 9", "create 9", "leave 0", "load 0,1,1"};
    ClosedRooms x = Edge.script(WITH_COPY, texts).make();
    for (int i = 0; i < 4; i++) {
      e.is("none done of " + texts[i], x.perform(i), 0);
      e.is("no STATUS by " + texts[i], Check.status(x), 0);
    }
    e.is("the same as a call is counted", x.load(0, 1, 1), N);
    e.is("by its STATUS", Check.status(x), 1);
    e.is("none done", x.perform(3), 0);
    e.is("no STATUS more", Check.status(x), 1);
  }

  private static void promise52Image() {
    Edge e = new Edge(check, "52 (image)");
    e.same("no MACHINE", NEW, x -> x.image(), N);
    e.same("all PAGES are FREE", TEN, x -> x.image(), 10);
    e.same("none is FREE", FULL, x -> x.image(), 0);
    e.same("three are FREE", HOUSE, x -> x.image(), 3);
    e.same("again", Edge.after(HOUSE, x -> x.image()), x -> x.image(), 3);
    e.looks("ACTS can be UNDONE still", Edge.after(HOUSE, x -> x.image()), x -> x.undo(), 5);
    ClosedRooms x = Edge.after(HOUSE, y -> y.image(), y -> y.slots(), y -> y.image(), y -> y.slots()).make();
    e.is("instead of the one ahead", x.back(), 2);
    e.is("that is the second", x.page(5, 0) * 10 + x.page(6, 0), 40);
    x = Edge.after(HOUSE, y -> y.slots(), y -> y.image(), y -> y.undo(), y -> y.undo()).make();
    e.is("an IMAGE of what was UNDONE", x.back(), 2);
  }

  private static void promise53Back() {
    Edge e = new Edge(check, "53 (back)");
    e.same("no MACHINE", NEW, x -> x.back(), N);
    e.same("no IMAGE", HOUSE, x -> x.back(), N);
    e.same("no IMAGE, of a new MACHINE", TEN, x -> x.back(), N);
    e.looks("all PAGES are FREE", Edge.after(TEN, x -> x.image(), x -> x.slots()), x -> x.back(), 10);
    e.looks("none is FREE", Edge.after(FULL, x -> x.image(), x -> x.remove(3)), x -> x.back(), 0);
    e.looks("nothing has changed", Edge.after(HOUSE, x -> x.image()), x -> x.back(), 3);
    e.looks("once more", Edge.after(HOUSE, x -> x.image(), x -> x.back(), x -> x.slots()), x -> x.back(), 3);
    e.same("at once once more", Edge.after(HOUSE, x -> x.image(), x -> x.back()), x -> x.back(), 3);
    ClosedRooms x = Edge.after(HOUSE, y -> y.image(), y -> y.slots(), y -> y.back()).make();
    e.is("no ACT can be UNDONE then", x.count(4), 0);
    e.is("no ACT can be UNDONE then", x.undo(), N);
    x.slots();
    x.slots();
    e.is("but those behind", x.undo(), 1);
  }

  /** PAGES, ROOMS, CORES, COPIES, VERSIONS and SERIALS given, the LOG. */
  private static void promise53WhatComesBack() {
    Edge e = new Edge(check, "53 (back)");
    for (int at = 0; at <= ACTS.length; at++) {
      for (int behind = at; behind <= ACTS.length; behind += 4) {
        ClosedRooms x = behind(at).make();
        ClosedRooms y = behind(at).make();
        y.image();
        y.back();
        x.image();
        for (int i = at; i < behind; i++) ACTS[i].on(x);
        x.back();
        e.is("an IMAGE at " + at + ", back from " + behind, Dump.whole(x).equals(Dump.whole(y)), true);
      }
    }
    ClosedRooms x = TEN.make();
    for (int i = 1; i <= 70; i++) x.tell(0, i);
    x.image();
    for (int i = 71; i <= 150; i++) x.tell(0, i);
    x.back();
    e.is("the LOG: how long", x.count(3), 60);
    e.is("the LOG: the latest", x.log(0, 2), 69);
    e.is("the LOG: the oldest", x.log(59, 2), 10);
    x = Edge.after(Edge.script(HOUSE, "slots"), y -> y.image()).make();
    x.create(0);
    Check.text(x, 1, "leave 0");
    Check.put(x, "abc");
    x.back();
    e.is("not STATUS", Check.status(x), 1000);
    e.is("not SCRIPTS", x.count(1), 2);
    e.is("not the TAPE", x.count(2), 3);
  }

  private static void promise53OfThisMachine() {
    Edge e = new Edge(check, "53 (back)");
    Edge.Make with = Edge.after(HOUSE, x -> x.image());
    e.same("no IMAGE of this MACHINE", Edge.after(with, x -> Check.text(x, 0, "pages 8;cores 3;hold 2;key 7")), x -> x.back(), N);
    e.same("no IMAGE of this MACHINE", Edge.after(with, x -> Check.text(x, 0, "pages 3")), x -> x.back(), N);
    e.looks("a FAULT is no other MACHINE", Edge.after(with, x -> Check.text(x, 0, "pages 11")), x -> x.back(), 3);
    e.looks("nor is a SCRIPT", Edge.after(with, x -> Check.text(x, 1, "slots")), x -> x.back(), 3);
    e.looks("one of the new MACHINE", Edge.after(with, x -> Check.text(x, 0, "pages 5"), x -> x.image(), x -> x.slots()), x -> x.back(), 5);
  }
}
