/** Promises 34, 35 and 39 to 47, edge by edge: REPORTS, and what is asked apart from as it is now. */
public final class EdgesOfAskingTest {
  private static final Check check = new Check("EdgesOfAskingTest");
  private static final int N = Check.N;
  private static final int H = Check.H;
  private static final Edge.Make NEW = Edge.NEW;
  private static final Edge.Make HOUSE = Edge.HOUSE;
  private static final Edge.Make INSIDE = Edge.INSIDE;
  private static final Edge.Make WITH_COPY = Edge.WITH_COPY;
  private static final Edge.Make AWAY = Edge.AWAY;
  private static final Edge.Make TEN = Edge.machine("pages 10;cores 3;hold 3");
  private static final Edge.Make FOUR_ROOMS = Edge.after(TEN, Edge.times(4, x -> x.create(1)));
  private static final Edge.Make TWELVE = Edge.after(WITH_COPY, Edge.times(11, x -> x.twice(0)));
  /** Three ENTRIES (PAGES 2, 3, 4), PLAIN pages at 3, 4, 5 (PAGES 5, 6, 7), SLOTS (PAGE 1); SIZE 8, SEALED. */
  private static final Edge.Make HALL = Edge.after(TEN, x -> x.create(8), x -> x.slots(), x -> x.add(0, 0, 1, 1, 0),
      x -> x.add(0, 1, 1, 1, 0), x -> x.add(0, 2, 1, 1, 0), x -> x.add(0, 3, 0, 7, 5), x -> x.add(0, 4, 0, 7, 6),
      x -> x.add(0, 5, 0, 7, 7), x -> x.seal(0, Check.room(x, 0, 3)));

  public static void main(String[] args) {
    promise34Report();
    promise34ReportGoesRound();
    promise34ReportIsAnyInt();
    promise35Proves();
    promise39Old();
    promise40Twins();
    promise41Waits();
    promise42Leaks();
    promise43Lies();
    promise44Victim();
    promise45Paper();
    promise45PaperOfExtend();
    promise46Alike();
    promise47Spell();
    check.finish();
  }

  private static int reportOf(int key, int own, int other, int register) {
    return ((key * 31 + own) * 31 + other) * 31 + register;
  }

  private static void promise34Report() {
    Edge e = new Edge(check, "34 (report)");
    int measure = Check.room(HOUSE.make(), 0, 3);
    e.same("for its own ROOM", INSIDE, x -> x.report(0, 0), reportOf(7, measure, measure, 0));
    e.same("for ROOM 1, BUILT", Edge.after(INSIDE, x -> x.create(1)), x -> x.report(0, 1), reportOf(7, measure, 8, 0));
    e.same("for ROOM 1, AWAY", Edge.after(AWAY, x -> x.enter(2, 0, 0)), x -> x.report(2, 1), reportOf(7, measure, 9, 0));
    e.same("REGISTER 999", Edge.after(HOUSE, x -> x.tell(0, 999), x -> x.enter(0, 0, 0)), x -> x.report(0, 0), reportOf(7, measure, measure, 999));
    e.same("no MACHINE", NEW, x -> x.report(0, 0), H);
    e.same("no such CORE: 3 of three", INSIDE, x -> x.report(3, 0), H);
    e.same("no such ROOM: 1", INSIDE, x -> x.report(0, 1), H);
    e.same("no such ROOM: 4", INSIDE, x -> x.report(0, 4), H);
    e.same("the CORE is outside", INSIDE, x -> x.report(1, 0), H);
    e.same("the CORE is outside by now", Edge.after(INSIDE, x -> x.leave(0)), x -> x.report(0, 0), H);
    e.same("the CORE is outside in haste", Edge.after(INSIDE, x -> x.trap(0)), x -> x.report(0, 0), H);
    for (int far : Edge.FAR) {
      e.same("no such CORE: " + far, INSIDE, x -> x.report(far, 0), H);
      e.same("no such ROOM: " + far, INSIDE, x -> x.report(0, far), H);
    }
  }

  /** ROOM 0 with an ENTRY, SEALED; ROOM 1 with seven PLAIN pages, of this MEASURE; CORE 1 inside ROOM 0. */
  private static Edge.Make twoRooms(String rules, int register, int measure) {
    int now = 14;
    for (int i = 0; i < 7; i++) now = 31 * now + 64 * i + 1;
    int thousands = 0;
    for (int i = 0; i < 7; i++) {
      now = 31 * now;
      thousands = 31 * thousands + 1000;
    }
    long rest = (measure - now - thousands) & 0xffffffffL;
    int[] values = new int[7];
    for (int i = 6; i >= 0; i--) {
      values[i] = (int) (rest % 31);
      rest /= 31;
    }
    return Edge.after(Edge.machine("pages 10;cores 3;" + rules), x -> x.create(1), x -> x.add(0, 0, 1, 7, 0),
        x -> x.seal(0, Check.room(x, 0, 3)), x -> x.create(7), x -> { for (int i = 0; i < 7; i++) x.add(1, i, 0, 1, values[i]); return 0; },
        x -> { for (int i = 0; i < 7; i++) x.extend(1, i); return 0; }, x -> { if (register > 0) x.tell(1, register); return 0; },
        x -> x.enter(1, 0, 0));
  }

  private static final int ENTRY_ROOM = 31 * 8 + 8 + 7;

  private static void promise34ReportGoesRound() {
    Edge e = new Edge(check, "34 (report, going round)");
    for (int key : new int[] {1, 7, 999}) {
      for (int measure : new int[] {Check.MIN, Check.MAX, N, 0, 1 << 30, -(1 << 30)}) {
        Edge.Make make = twoRooms("key " + key, 999, measure);
        e.same("KEY " + key + ", MEASURE " + measure, make, x -> x.report(1, 1), reportOf(key, ENTRY_ROOM, measure, 999));
        e.same("proves that", make, x -> x.proves(1, 0, 999, reportOf(key, ENTRY_ROOM, ENTRY_ROOM, 999)) ? 1 : 0, 1);
        e.same("proves one of the other ROOM", make, x -> x.proves(1, 1, 5, reportOf(key, measure, ENTRY_ROOM, 5)) ? 1 : 0, 1);
      }
    }
  }

  /** A REPORT whose number is NONE's or HIDDEN's is one all the same. */
  private static void promise34ReportIsAnyInt() {
    Edge e = new Edge(check, "34 (report)");
    int inverse = 31;
    for (int i = 0; i < 5; i++) inverse *= 2 - 31 * inverse;
    e.is("31 turned round", inverse * 31, 1);
    for (int report : new int[] {N, H, 0, Check.MIN, Check.MAX}) {
      int measure = (report - 7) * inverse - 31 * (31 * 5 + ENTRY_ROOM);
      Edge.Make make = twoRooms("key 5", 7, measure);
      e.same("REPORT " + report, make, x -> x.report(1, 1), report);
      int own = report * inverse * inverse - ENTRY_ROOM * inverse - 31 * 5;
      Edge.Make of = twoRooms("key 5", 7, own);
      e.same("proves " + report, of, x -> x.proves(1, 1, 0, report) ? 1 : 0, 1);
      e.same("proves " + report + " with another REGISTER", of, x -> x.proves(1, 1, 1, report) ? 1 : 0, 0);
    }
  }

  private static void promise35Proves() {
    Edge e = new Edge(check, "35 (proves)");
    int measure = Check.room(HOUSE.make(), 0, 3);
    Edge.Make make = Edge.after(INSIDE, x -> x.create(1));
    int report = reportOf(7, 8, measure, 0);
    e.same("REGISTER 0", make, x -> x.proves(0, 1, 0, report) ? 1 : 0, 1);
    e.same("REGISTER 999", make, x -> x.proves(0, 1, 999, report + 999) ? 1 : 0, 1);
    e.same("one more", make, x -> x.proves(0, 1, 0, report + 1) ? 1 : 0, 0);
    e.same("one less", make, x -> x.proves(0, 1, 0, report - 1) ? 1 : 0, 0);
    e.same("REGISTER one more", make, x -> x.proves(0, 1, 1, report) ? 1 : 0, 0);
    e.same("the ROOMS the other way", make, x -> x.proves(0, 0, 0, report) ? 1 : 0, 0);
    e.same("outside", make, x -> x.proves(1, 1, 0, report) ? 1 : 0, 0);
    e.same("outside by now", Edge.after(make, x -> x.leave(0)), x -> x.proves(0, 1, 0, report) ? 1 : 0, 0);
    e.same("no such ROOM: 2", make, x -> x.proves(0, 2, 0, report) ? 1 : 0, 0);
    e.same("no such ROOM: 4", make, x -> x.proves(0, 4, 0, report) ? 1 : 0, 0);
    e.same("no such CORE: 3 of three", make, x -> x.proves(3, 1, 0, report) ? 1 : 0, 0);
    e.same("no MACHINE", NEW, x -> x.proves(0, 0, 0, 0) ? 1 : 0, 0);
    e.same("no such ROOM, what REPORT refuses with", make, x -> x.proves(0, 2, 0, H) ? 1 : 0, 0);
    e.same("no such ROOM, all 0", make, x -> x.proves(0, 3, 0, reportOf(7, 0, measure, 0)) ? 1 : 0, 0);
    for (int far : Edge.FAR) {
      e.same("no such CORE: " + far, make, x -> x.proves(far, 1, 0, report) ? 1 : 0, 0);
      e.same("no such ROOM: " + far, make, x -> x.proves(0, far, 0, report) ? 1 : 0, 0);
      e.same("another REGISTER: " + far, make, x -> x.proves(0, 1, far, report) ? 1 : 0, 0);
      e.same("another REPORT: " + far, make, x -> x.proves(0, 1, 0, far) ? 1 : 0, 0);
    }
  }

  private static void promise39Old() {
    Edge e = new Edge(check, "39 (old)");
    e.same("no MACHINE", NEW, x -> x.old(), N);
    e.same("no COPIES", TEN, x -> x.old(), 0);
    e.same("its VERSION is in a SLOT", WITH_COPY, x -> x.old(), 0);
    e.same("twelve of one VERSION", TWELVE, x -> x.old(), 0);
    e.same("twelve, no SLOT has it any more", Edge.after(TWELVE, x -> x.load(5, 1, 0)), x -> x.old(), 4095);
    e.same("changed: the first", Edge.after(TWELVE, x -> x.change(0, 1)), x -> x.old(), 1);
    e.same("changed: the last", Edge.after(TWELVE, x -> x.change(11, 1)), x -> x.old(), 2048);
    e.same("changed and changed back", Edge.after(TWELVE, x -> x.change(3, 1), x -> x.change(3, 50)), x -> x.old(), 8);
    Edge.Make gone = Edge.after(WITH_COPY, x -> x.remove(2), x -> x.remove(4), x -> x.remove(0));
    e.same("their ROOM is not there", gone, x -> x.old(), 1);
    Edge.Make away = Edge.after(WITH_COPY, x -> x.remove(2), x -> x.remove(4), x -> x.evict(0, 1, 1));
    e.same("their ROOM is there, though AWAY", away, x -> x.old(), 0);
    e.same("the ROOT came back", Edge.after(away, x -> x.load(1, 1, 1)), x -> x.old(), 2);
    e.same("another ROOM is where it was", Edge.after(gone, x -> x.create(4)), x -> x.old(), 1);
    for (int slot = 0; slot < 4; slot++) {
      int one = slot;
      e.same("whichever SLOT it is: " + slot, Edge.after(HOUSE, x -> x.slots(), x -> x.block(3), x -> x.track(0), x -> x.evict(3, 5, one)),
          x -> x.old(), 0);
    }
    e.same("SLOTS in the first PAGE", Edge.after(TEN, x -> x.slots(), x -> x.create(1), x -> x.evict(1, 0, 3)), x -> x.old(), 0);
    e.same("SLOTS in the last PAGE", Edge.after(TEN, x -> x.create(1), Edge.times(9, x -> x.slots()), x -> x.evict(0, 9, 3)), x -> x.old(), 0);
    e.same("dropped ones are none", Edge.after(TWELVE, x -> x.load(5, 1, 0), x -> x.drop(0), x -> x.drop(11)), x -> x.old(), 2046);
  }

  private static void promise40Twins() {
    Edge e = new Edge(check, "40 (twins)");
    e.same("none", WITH_COPY, x -> x.twins(0), 0);
    e.same("all others, of the first", TWELVE, x -> x.twins(0), 4094);
    e.same("all others, of the last", TWELVE, x -> x.twins(11), 2047);
    e.same("changed or not", Edge.after(TWELVE, x -> x.change(4, 1)), x -> x.twins(4), 4095 - 16);
    e.same("OLD or not", Edge.after(TWELVE, x -> x.load(0, 1, 0)), x -> x.twins(0), 4094);
    e.same("dropped ones are none", Edge.after(TWELVE, x -> x.drop(11)), x -> x.twins(0), 2046);
    e.same("another VERSION", Edge.after(WITH_COPY, x -> x.block(4), x -> x.track(0), x -> x.evict(4, 1, 1), x -> x.twice(1)), x -> x.twins(1), 4);
    e.same("no such COPY: 1", WITH_COPY, x -> x.twins(1), N);
    e.same("no such COPY: 12", TWELVE, x -> x.twins(12), N);
    e.same("no such COPY: dropped", Edge.after(TWELVE, x -> x.drop(3)), x -> x.twins(3), N);
    e.same("no MACHINE", NEW, x -> x.twins(0), N);
    for (int far : Edge.FAR) e.same("no such COPY: " + far, TWELVE, x -> x.twins(far), N);
  }

  private static void promise41Waits() {
    Edge e = new Edge(check, "41 (waits)");
    Edge.Make three = Edge.after(HALL, x -> x.enter(0, 0, 0), x -> x.enter(1, 0, 1), x -> x.track(0), x -> x.enter(2, 0, 2));
    e.same("none inside", HALL, x -> x.waits(5), 0);
    e.same("were it BLOCKED now: all inside", three, x -> x.waits(5), 7);
    e.same("an ENTRY that is taken", three, x -> x.waits(2), 7);
    e.same("BLOCKED in the EPOCH now: all inside", Edge.after(three, x -> x.block(5)), x -> x.waits(5), 7);
    Edge.Make ahead = Edge.after(HALL, x -> x.enter(0, 0, 0), x -> x.block(5), x -> x.enter(1, 0, 1), x -> x.track(0), x -> x.enter(2, 0, 2));
    e.same("as it is BLOCKED: those since that EPOCH", ahead, x -> x.waits(5), 3);
    e.same("another page, were it BLOCKED now", ahead, x -> x.waits(6), 7);
    e.same("one of them has left", Edge.after(ahead, x -> x.leave(0)), x -> x.waits(5), 2);
    e.same("all of them have left, one in haste", Edge.after(ahead, x -> x.leave(0), x -> x.trap(1)), x -> x.waits(5), 0);
    e.same("one has come again", Edge.after(ahead, x -> x.leave(0), x -> x.enter(0, 0, 0)), x -> x.waits(5), 2);
    e.same("of a ROOM that is BUILT", Edge.SITE, x -> x.waits(3), 0);
    e.same("inside another ROOM", Edge.after(three, x -> x.create(1), x -> x.add(1, 0, 0, 1, 1)), x -> x.waits(9), 0);
    e.same("neither: ROOT", HALL, x -> x.waits(0), N);
    e.same("neither: SLOTS", HALL, x -> x.waits(1), N);
    e.same("neither: FREE", HALL, x -> x.waits(8), N);
    e.same("no such PAGE: 10 of ten", HALL, x -> x.waits(10), N);
    e.same("no such PAGE: 8 of eight", HOUSE, x -> x.waits(8), N);
    e.same("no MACHINE", NEW, x -> x.waits(0), N);
    for (int far : Edge.FAR) e.same("no such PAGE: " + far, HALL, x -> x.waits(far), N);
  }

  private static void promise42Leaks() {
    Edge e = new Edge(check, "42 (leaks)");
    Edge.Make sees = Edge.after(HALL, x -> x.enter(0, 0, 0), x -> x.enter(2, 0, 2), x -> x.touch(0, 3, 0), x -> x.touch(0, 5, 0),
        x -> x.touch(2, 4, 0), x -> x.touch(2, 5, 0));
    e.same("SEEN, but not BLOCKED", sees, x -> x.leaks(0), 0);
    e.same("BLOCKED, but not SEEN", Edge.after(HALL, x -> x.enter(0, 0, 0), x -> x.block(5)), x -> x.leaks(0), 0);
    e.same("the first that is SEEN", Edge.after(sees, x -> x.block(5)), x -> x.leaks(0), 8);
    e.same("SEEN by the last CORE", Edge.after(sees, x -> x.block(6)), x -> x.leaks(0), 16);
    e.same("SEEN by two", Edge.after(sees, x -> x.block(7)), x -> x.leaks(0), 32);
    Edge.Make all = Edge.after(sees, x -> x.block(5), x -> x.block(6), x -> x.block(7));
    e.same("all", all, x -> x.leaks(0), 56);
    e.same("all, TRACKED", Edge.after(all, x -> x.track(0)), x -> x.leaks(0), 56);
    e.same("one CORE has left", Edge.after(all, x -> x.leave(0)), x -> x.leaks(0), 48);
    e.same("one CORE has left in haste", Edge.after(all, x -> x.trap(2)), x -> x.leaks(0), 40);
    e.same("by the PAGE that is SEEN, whatever MAP tells", Edge.after(sees, x -> x.map(0, 3, 9), x -> x.block(5)), x -> x.leaks(0), 8);
    e.same("not by the PAGE that MAP tells", Edge.after(HALL, x -> x.enter(0, 0, 0), x -> x.touch(0, 3, 0), x -> x.map(0, 3, 6), x -> x.block(6)),
        x -> x.leaks(0), 0);
    e.same("an ENTRY that is BLOCKED is not SEEN", Edge.after(sees, x -> x.block(2)), x -> x.leaks(0), 0);
    Edge.Make large = Edge.after(TEN, x -> x.create(8), x -> x.add(0, 0, 1, 1, 0), x -> x.add(0, 7, 0, 1, 1), x -> x.seal(0, Check.room(x, 0, 3)),
        x -> x.enter(1, 0, 0), x -> x.touch(1, 7, 0), x -> x.block(2));
    e.same("ADDRESS 7, the last", large, x -> x.leaks(0), 128);
    e.same("another ROOM", Edge.after(large, x -> x.create(1)), x -> x.leaks(1), 0);
    e.same("no such ROOM: 1", HALL, x -> x.leaks(1), N);
    e.same("no such ROOM: 4", FOUR_ROOMS, x -> x.leaks(4), N);
    e.same("no MACHINE", NEW, x -> x.leaks(0), N);
    for (int far : Edge.FAR) e.same("no such ROOM: " + far, HALL, x -> x.leaks(far), N);
  }

  private static void promise43Lies() {
    Edge e = new Edge(check, "43 (lies)");
    e.same("each its own", HALL, x -> x.lies(0), 0);
    e.same("none told is no LIE", Edge.after(HALL, x -> x.map(0, 0, N)), x -> x.lies(0), 0);
    e.same("ADDRESS 0: a page of another ADDRESS", Edge.after(HALL, x -> x.map(0, 0, 3)), x -> x.lies(0), 1);
    e.same("ADDRESS 7, the last: a FREE PAGE", Edge.after(HALL, x -> x.map(0, 7, 9)), x -> x.lies(0), 128);
    e.same("the ROOT", Edge.after(HALL, x -> x.map(0, 6, 0)), x -> x.lies(0), 64);
    e.same("SLOTS", Edge.after(HALL, x -> x.map(0, 6, 1)), x -> x.lies(0), 64);
    e.same("the page of that ADDRESS of another ROOM", Edge.after(HALL, x -> x.create(2), x -> x.add(1, 0, 0, 1, 1), x -> x.map(0, 0, 9)),
        x -> x.lies(0), 1);
    e.same("all eight", Edge.after(HALL, x -> { for (int i = 0; i < 8; i++) x.map(0, i, 9); return 0; }), x -> x.lies(0), 255);
    e.same("its page is out", WITH_COPY, x -> x.lies(0), 2);
    e.same("its page came back elsewhere", Edge.after(WITH_COPY, x -> x.slots(), x -> x.load(0, 1, 0)), x -> x.lies(0), 0);
    e.same("its page is REMOVED", Edge.after(HALL, x -> x.remove(5)), x -> x.lies(0), 8);
    e.same("told truly again", Edge.after(HALL, x -> x.map(0, 3, 9), x -> x.map(0, 3, 5)), x -> x.lies(0), 0);
    e.same("AWAY", Edge.after(AWAY, x -> x.map(1, 1, 5)), x -> x.lies(1), 2);
    e.same("no such ROOM: 1", HALL, x -> x.lies(1), N);
    e.same("no such ROOM: 4", FOUR_ROOMS, x -> x.lies(4), N);
    e.same("no MACHINE", NEW, x -> x.lies(0), N);
    for (int far : Edge.FAR) e.same("no such ROOM: " + far, HALL, x -> x.lies(far), N);
  }

  private static void promise44Victim() {
    Edge e = new Edge(check, "44 (victim)");
    e.same("no MACHINE", NEW, x -> x.victim(), N);
    e.same("nothing at all", TEN, x -> x.victim(), N);
    e.same("none", HALL, x -> x.victim(), N);
    e.same("BLOCKED in the EPOCH now", Edge.after(HALL, x -> x.block(5)), x -> x.victim(), N);
    e.same("BLOCKED in the EPOCH ahead", Edge.after(HALL, x -> x.block(5), x -> x.track(0)), x -> x.victim(), 5);
    e.same("of several PLAIN ones the lowest", Edge.after(HALL, x -> x.block(7), x -> x.block(6), x -> x.track(0)), x -> x.victim(), 6);
    e.same("of several ENTRIES the lowest", Edge.after(HALL, x -> x.block(4), x -> x.block(3), x -> x.track(0)), x -> x.victim(), 3);
    e.same("PLAIN ahead of ENTRY", Edge.after(HALL, x -> x.block(2), x -> x.block(7), x -> x.track(0)), x -> x.victim(), 7);
    Edge.Make roots = Edge.after(TEN, x -> x.slots(), x -> x.create(1), x -> x.create(1), x -> x.create(1), x -> x.add(2, 0, 1, 1, 1), x -> x.block(4));
    e.same("of several ROOTS the lowest", roots, x -> x.victim(), 1);
    e.same("ENTRY ahead of ROOT", Edge.after(roots, x -> x.track(2)), x -> x.victim(), 4);
    e.same("a ROOT with other pages here is none", Edge.after(roots, x -> x.remove(1), x -> x.remove(2)), x -> x.victim(), N);
    e.same("PAGE 0", Edge.after(TEN, x -> x.create(1), x -> x.slots()), x -> x.victim(), 0);
    e.same("PAGE 9, the last", Edge.after(TEN, Edge.times(9, x -> x.slots()), x -> x.create(1)), x -> x.victim(), 9);
    e.same("an ENTRY left in haste", Edge.after(HALL, x -> x.enter(0, 0, 0), x -> x.trap(0), x -> x.block(2), x -> x.track(0)), x -> x.victim(), 2);
    e.same("an ENTRY that is taken is none", Edge.after(HALL, x -> x.enter(0, 0, 0), x -> x.block(2), x -> x.track(0)), x -> x.victim(), N);
    Edge.Make since = Edge.after(HALL, x -> x.enter(2, 0, 2), x -> x.block(5), x -> x.track(0));
    e.same("a CORE is inside since", since, x -> x.victim(), N);
    e.same("it has left", Edge.after(since, x -> x.leave(2)), x -> x.victim(), 5);
    e.same("it has come again", Edge.after(since, x -> x.leave(2), x -> x.enter(2, 0, 2)), x -> x.victim(), 5);
  }

  private static void paperIs(Edge e, String text, int due) {
    e.same(text, Edge.script(NEW, text), x -> x.paper(0), due);
    e.same(text + ", with a MACHINE", Edge.script(HOUSE, text), x -> x.paper(0), due);
  }

  private static void promise45Paper() {
    Edge e = new Edge(check, "45 (paper)");
    e.same("no such SCRIPT: 0 of none", NEW, x -> x.paper(0), H);
    Edge.Make four = Edge.script(NEW, "create 1", "create 2", "create 3", "create 4");
    e.same("SCRIPT 3, the last", four, x -> x.paper(3), 11);
    e.same("no such SCRIPT: 4", four, x -> x.paper(4), H);
    for (int far : Edge.FAR) e.same("no such SCRIPT: " + far, four, x -> x.paper(far), H);
    paperIs(e, "slots", H);
    paperIs(e, "add 0,0,0,1,1;extend 0,0;seal 0", H);
    paperIs(e, "create 0", 7);
    paperIs(e, "create 999", 1006);
    paperIs(e, "slots;slots;slots;slots;slots;slots;slots;slots;slots;slots;slots;create 8", 15);
    paperIs(e, "add 0,0,0,7,1;extend 0,0;create 1", 8);
    paperIs(e, "create 1;create 8;create 999", 8);
    paperIs(e, "create 1;add 0,0,0,1,1", 31 * 8 + 1);
    paperIs(e, "create 1;add 999,0,0,1,1", 31 * 8 + 1);
    paperIs(e, "create 1;add 0,999,999,999,999", 31 * 8 + 64 * 999 + 8 * 999 + 999);
    paperIs(e, "create 1;create 2;add 1,0,0,1,1", 31 * 8 + 1);
    paperIs(e, "create 1;slots;seal 0;enter 0,0,0;leave 0;trap 0;resume 0,0,0;touch 0,0,0;block 0;track 0;evict 0,1,0;load 0,1,0", 8);
    paperIs(e, "create 1;remove 0;map 0,0,0", 8);
    int round = 1006;
    StringBuilder text = new StringBuilder("create 999");
    for (int i = 0; i < 11; i++) {
      text.append(";add 0,999,999,999,").append(i);
      round = 31 * round + 64 * 999 + 8 * 999 + 999;
      paperIs(e, text.toString(), round);
    }
  }

  private static void promise45PaperOfExtend() {
    Edge e = new Edge(check, "45 (paper, extend)");
    int with = 31 * 8 + 1;
    paperIs(e, "create 1;extend 0,0", 31 * 8 + 1000);
    paperIs(e, "create 1;extend 999,999", 31 * 8 + 1000);
    paperIs(e, "create 1;add 0,0,0,1,0;extend 0,0", 31 * with + 1000);
    paperIs(e, "create 1;add 0,0,0,1,999;extend 0,0", 31 * with + 1999);
    paperIs(e, "create 1;add 0,0,0,1,5;extend 7,0", 31 * with + 1005);
    paperIs(e, "create 1;add 0,0,0,1,5;add 0,0,0,1,6;extend 0,0", 31 * (31 * with + 1) + 1006);
    paperIs(e, "create 1;add 0,0,0,1,5;extend 0,0;add 0,0,0,1,6", 31 * (31 * with + 1005) + 1);
    paperIs(e, "create 1;add 0,0,0,1,5;add 0,1,0,1,6;extend 0,0", 31 * (31 * with + 65) + 1005);
    paperIs(e, "create 1;add 0,0,0,1,5;extend 0,1", 31 * with + 1000);
    paperIs(e, "add 0,0,0,1,5;create 1;extend 0,0", 31 * 8 + 1000);
    paperIs(e, "create 1;add 0,0,0,1,5;create 1;extend 0,0", 31 * with + 1005);
    paperIs(e, "create 1;add 0,0,0,1,5;remove 1;extend 0,0", 31 * with + 1005);
    paperIs(e, "create 1;add 0,5,0,1,5;extend 0,5;extend 0,5", 31 * (31 * (31 * 8 + 321) + 1005) + 1005);
  }

  private static void promise46Alike() {
    Edge e = new Edge(check, "46 (alike)");
    e.same("the first and the last", FOUR_ROOMS, x -> x.alike(0, 3) ? 1 : 0, 1);
    e.same("the last and the first", FOUR_ROOMS, x -> x.alike(3, 0) ? 1 : 0, 1);
    for (int room = 0; room < 4; room++) {
      int one = room;
      e.same("both are one", FOUR_ROOMS, x -> x.alike(one, one) ? 1 : 0, 0);
      e.same("no such one: 4", FOUR_ROOMS, x -> x.alike(one, 4) ? 1 : 0, 0);
      e.same("no such one: 4", FOUR_ROOMS, x -> x.alike(4, one) ? 1 : 0, 0);
    }
    e.same("no such ones, both are one", FOUR_ROOMS, x -> x.alike(4, 4) ? 1 : 0, 0);
    e.same("no such one: it was", Edge.after(FOUR_ROOMS, x -> x.remove(3)), x -> x.alike(0, 3) ? 1 : 0, 0);
    e.same("no such one: the first was", Edge.after(FOUR_ROOMS, x -> x.remove(0)), x -> x.alike(0, 3) ? 1 : 0, 0);
    e.same("MEASURES one apart", Edge.after(TEN, x -> x.create(1), x -> x.create(2)), x -> x.alike(0, 1) ? 1 : 0, 0);
    e.same("one SEALED, one BUILT", Edge.after(FOUR_ROOMS, x -> x.seal(1, 8)), x -> x.alike(0, 1) ? 1 : 0, 1);
    e.same("one AWAY", Edge.after(FOUR_ROOMS, x -> x.slots(), x -> x.evict(1, 4, 0)), x -> x.alike(0, 1) ? 1 : 0, 1);
    e.same("no MACHINE", NEW, x -> x.alike(0, 1) ? 1 : 0, 0);
    for (int far : Edge.FAR) {
      e.same("no such one: " + far, FOUR_ROOMS, x -> x.alike(far, 0) ? 1 : 0, 0);
      e.same("no such one: " + far, FOUR_ROOMS, x -> x.alike(0, far) ? 1 : 0, 0);
    }
  }

  private static void spells(Edge e, Edge.Make make, int page, String due) {
    e.same(due + ": how many", make, x -> x.spell(page, N), due.length());
    for (int i = 0; i < due.length(); i++) {
      int one = i;
      e.looks(due + ": " + i, make, x -> x.spell(page, one), due.charAt(i));
    }
    e.same(due + ": none behind", make, x -> x.spell(page, due.length()), N);
    for (int far : Edge.FAR) e.same(due + ": " + far, make, x -> x.spell(page, far), far == N ? due.length() : N);
  }

  private static void promise47Spell() {
    Edge e = new Edge(check, "47 (spell)");
    spells(e, HALL, 0, "room 0 page 0");
    spells(e, HALL, 1, "slots 1");
    spells(e, HALL, 2, "room 0 page 2");
    spells(e, HALL, 7, "room 0 page 7");
    spells(e, HALL, 9, "free 9");
    spells(e, Edge.after(FOUR_ROOMS, Edge.times(5, x -> x.slots()), x -> x.add(3, 0, 1, 1, 1)), 9, "room 3 page 9");
    spells(e, TEN, 0, "free 0");
    spells(e, Edge.after(TEN, x -> x.slots()), 0, "slots 0");
    e.same("no such PAGE: 10 of ten", TEN, x -> x.spell(10, 0), N);
    e.same("no such PAGE: 8 of eight", HOUSE, x -> x.spell(8, N), N);
    e.same("no MACHINE", NEW, x -> x.spell(0, N), N);
    for (int far : Edge.FAR) {
      e.same("no such PAGE: " + far, TEN, x -> x.spell(far, 0), N);
      e.same("no such PAGE: " + far, TEN, x -> x.spell(far, N), N);
    }
  }
}
