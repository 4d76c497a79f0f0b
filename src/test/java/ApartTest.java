/** Promises 34, 35 and 39 to 47: REPORTS, and what is asked apart from as it is now. */
public final class ApartTest {
  private static final Check check = new Check("ApartTest");
  private static final int N = Check.N;
  private static final int H = Check.H;
  private static final int[] ODD = {-1, Check.MIN, Check.MAX};

  public static void main(String[] args) {
    promise34Report();
    promise35Proves();
    promise39Old();
    promise40Twins();
    promise41Waits();
    promise42Leaks();
    promise43Lies();
    promise44Victim();
    promise45Paper();
    promise46Alike();
    promise47Spell();
    check.finish();
  }

  /** The house with a second ROOM 1 (ROOT 5, ENTRY 6 at 0), SEALED; CORE 0 inside ROOM 0, CORE 1 inside ROOM 1. */
  private static ClosedRooms twoRooms() {
    ClosedRooms x = Check.house();
    x.create(1);
    x.add(1, 0, 1, 1, 0);
    x.seal(1, Check.room(x, 1, 3));
    x.tell(0, 123);
    x.tell(1, 45);
    x.enter(0, 0, 0);
    x.enter(1, 1, 0);
    return x;
  }

  private static int reportOf(int key, int own, int other, int register) {
    return ((key * 31 + own) * 31 + other) * 31 + register;
  }

  private static void promise34Report() {
    ClosedRooms x = twoRooms();
    int zero = Check.room(x, 0, 3);
    int one = Check.room(x, 1, 3);
    int log = x.count(3);
    check.is("report(0, 1)", x.report(0, 1), reportOf(7, zero, one, 123));
    check.is("report(1, 0)", x.report(1, 0), reportOf(7, one, zero, 45));
    check.is("report(0, 0)", x.report(0, 0), reportOf(7, zero, zero, 123));
    check.is("REPORTS are no ACTS", x.count(3), log);
    check.is("outside", x.report(2, 0), H);
    check.is("ROOM 2", x.report(0, 2), H);
    check.is("CORE 3", x.report(3, 0), H);
    for (int odd : ODD) {
      check.is("CORE " + odd, x.report(odd, 0), H);
      check.is("ROOM " + odd, x.report(0, odd), H);
    }
    check.is("no STATUS", Check.status(x), 0);
    x.create(3);
    check.is("for a ROOM that is BUILT", x.report(0, 2), reportOf(7, zero, 10, 123));
    x.evict(7, 1, 0);
    check.is("for a ROOM that is AWAY", x.report(0, 2), reportOf(7, zero, 10, 123));
    ClosedRooms y = Check.machine("key 999;pages 9");
    y.create(1);
    y.add(0, 0, 1, 7, 999);
    int measure = Check.room(y, 0, 3);
    for (int i = 0; i < 9; i++) measure = y.extend(0, 0);
    y.seal(0, measure);
    y.tell(0, 999);
    y.enter(0, 0, 0);
    check.is("going round", y.report(0, 0), reportOf(999, measure, measure, 999));
  }

  private static void promise35Proves() {
    ClosedRooms x = twoRooms();
    int report = x.report(0, 1);
    check.is("proves", x.proves(1, 0, 123, report), true);
    check.is("another REGISTER", x.proves(1, 0, 124, report), false);
    check.is("another ROOM", x.proves(1, 1, 123, report), false);
    check.is("another number", x.proves(1, 0, 123, report + 1), false);
    check.is("a REPORT for another", x.proves(0, 0, 123, report), false);
    check.is("its own REGISTER no matter", x.proves(0, 1, 45, x.report(1, 0)), true);
    check.is("of its own ROOM", x.proves(0, 0, 123, x.report(0, 0)), true);
    check.is("outside", x.proves(2, 0, 123, report), false);
    check.is("ROOM 2", x.proves(1, 2, 123, report), false);
    check.is("CORE 3", x.proves(3, 0, 123, report), false);
    for (int odd : ODD) {
      check.is("CORE " + odd, x.proves(odd, 0, 123, report), false);
      check.is("ROOM " + odd, x.proves(1, odd, 123, report), false);
      check.is("REGISTER " + odd, x.proves(1, 0, odd, report), false);
      check.is("REPORT " + odd, x.proves(1, 0, 123, odd), false);
    }
    check.is("no MACHINE", new ClosedRooms().proves(0, 0, 0, 0), false);
    x.leave(1);
    check.is("outside by now", x.proves(1, 0, 123, report), false);
    check.is("no STATUS", Check.status(x), 0);
  }

  private static void promise39Old() {
    check.is("no MACHINE", new ClosedRooms().old(), N);
    ClosedRooms x = Check.houseWithCopy();
    check.is("none is OLD", x.old(), 0);
    x.twice(0);
    check.is("a double is not OLD", x.old(), 0);
    x.change(1, 3);
    check.is("a changed one is", x.old(), 2);
    x.change(1, 50);
    check.is("changed it stays", x.old(), 2);
    x.load(0, 1, 0);
    check.is("by VERSION", x.old(), 3);
    x.create(1);
    x.slots();
    x.evict(5, 6, 3);
    check.is("a ROOT", x.old(), 3);
    x.remove(4);
    x.remove(3);
    x.block(2);
    x.track(0);
    x.evict(2, 1, 0);
    check.is("an ENTRY", x.old(), 3);
    x.evict(0, 1, 1);
    check.is("AWAY is not OLD", x.old(), 3);
    x.load(4, 1, 1);
    check.is("the ROOT is", x.old(), 19);
    x.remove(0);
    check.is("the ROOM is not there", x.old(), 27);
    x.create(1);
    check.is("nor by SERIAL", x.old(), 27);
    x.drop(0);
    check.is("dropped", x.old(), 26);
  }

  private static void promise40Twins() {
    ClosedRooms x = Check.houseWithCopy();
    check.is("none", x.twins(0), 0);
    x.twice(0);
    x.twice(0);
    check.is("twins(0)", x.twins(0), 6);
    check.is("twins(1)", x.twins(1), 5);
    x.change(1, 7);
    check.is("changed or not", x.twins(2), 3);
    x.load(0, 1, 0);
    x.block(3);
    x.track(0);
    x.evict(3, 1, 0);
    check.is("another VERSION", x.twins(3), 0);
    check.is("the OLD ones", x.twins(0), 6);
    x.drop(0);
    check.is("dropped", x.twins(2), 2);
    check.is("no such COPY", x.twins(0), N);
    check.is("COPY 12", x.twins(12), N);
    for (int odd : ODD) check.is("COPY " + odd, x.twins(odd), N);
    check.is("no MACHINE", new ClosedRooms().twins(0), N);
  }

  private static void promise41Waits() {
    ClosedRooms x = Check.machine("pages 10;cores 3");
    x.create(6);
    x.slots();
    for (int i = 0; i < 3; i++) x.add(0, i, 1, 1, 0);
    x.add(0, 3, 0, 1, 5);
    x.add(0, 4, 0, 1, 5);
    x.create(1);
    x.add(1, 0, 0, 1, 1);
    x.seal(0, Check.room(x, 0, 3));
    check.is("none inside", x.waits(5), 0);
    x.enter(0, 0, 0);
    check.is("were it BLOCKED now", x.waits(5), 1);
    x.block(5);
    x.track(0);
    x.enter(2, 0, 2);
    check.is("as it is BLOCKED", x.waits(5), 1);
    check.is("were the other one BLOCKED now", x.waits(6), 5);
    check.is("an ENTRY", x.waits(3), 5);
    check.is("a taken one", x.waits(4), 5);
    x.block(6);
    check.is("BLOCKED now", x.waits(6), 5);
    x.leave(0);
    check.is("0 has left", x.waits(5), 0);
    check.is("0 has left", x.waits(6), 4);
    check.is("another ROOM", x.waits(8), 0);
    check.is("ROOT", x.waits(0), N);
    check.is("SLOTS", x.waits(1), N);
    check.is("FREE", x.waits(9), N);
    check.is("PAGE 10", x.waits(10), N);
    for (int odd : ODD) check.is("PAGE " + odd, x.waits(odd), N);
  }

  private static void promise42Leaks() {
    ClosedRooms x = twoRooms();
    check.is("none", x.leaks(0), 0);
    x.touch(0, 1, 0);
    check.is("SEEN, not BLOCKED", x.leaks(0), 0);
    x.block(4);
    check.is("BLOCKED, not SEEN", x.leaks(0), 0);
    x.block(3);
    check.is("both", x.leaks(0), 2);
    check.is("another ROOM", x.leaks(1), 0);
    x.track(0);
    check.is("TRACK stops none", x.leaks(0), 2);
    x.leave(0);
    check.is("it has left", x.leaks(0), 0);
    check.is("ROOM 2", x.leaks(2), N);
    for (int odd : ODD) check.is("ROOM " + odd, x.leaks(odd), N);
    ClosedRooms y = Check.machine("pages 10;hold 3");
    y.create(6);
    y.add(0, 0, 1, 1, 0);
    y.add(0, 5, 1, 1, 0);
    for (int i = 1; i < 5; i++) y.add(0, i, 0, 1, 5);
    y.seal(0, Check.room(y, 0, 3));
    y.enter(0, 0, 0);
    y.enter(1, 0, 5);
    y.touch(0, 4, 0);
    y.touch(1, 2, 0);
    y.touch(1, 4, 0);
    y.touch(1, 1, 0);
    for (int page = 1; page < 7; page++) y.block(page);
    check.is("of all CORES", y.leaks(0), 22);
  }

  private static void promise43Lies() {
    ClosedRooms x = twoRooms();
    check.is("none", x.lies(0), 0);
    x.map(0, 3, 7);
    check.is("a FREE one", x.lies(0), 8);
    x.map(0, 3, N);
    check.is("none told is no LIE", x.lies(0), 0);
    x.map(0, 0, 0);
    check.is("ROOT", x.lies(0), 1);
    x.map(0, 1, 4);
    x.map(0, 2, 3);
    check.is("of other ADDRESSES", x.lies(0), 7);
    x.map(0, 0, 6);
    check.is("of another ROOM", x.lies(0), 7);
    x.map(0, 0, 2);
    check.is("its own", x.lies(0), 6);
    check.is("the other ROOM", x.lies(1), 0);
    check.is("ROOM 2", x.lies(2), N);
    for (int odd : ODD) check.is("ROOM " + odd, x.lies(odd), N);
    x = Check.houseWithCopy();
    check.is("out", x.lies(0), 2);
    x.load(0, 1, 0);
    check.is("here again", x.lies(0), 0);
    x.remove(4);
    check.is("REMOVED", x.lies(0), 4);
  }

  private static void promise44Victim() {
    check.is("no MACHINE", new ClosedRooms().victim(), N);
    ClosedRooms x = Check.house();
    check.is("none", x.victim(), N);
    x.create(1);
    check.is("a ROOT alone", x.victim(), 5);
    x.block(2);
    check.is("BLOCKED now", x.victim(), 5);
    x.track(0);
    check.is("an ENTRY", x.victim(), 2);
    x.block(4);
    x.track(0);
    check.is("PLAIN", x.victim(), 4);
    x.block(3);
    x.track(0);
    check.is("the lowest", x.victim(), 3);
    check.is("that can go", x.evict(3, 1, 0), 0);
    x = Check.house();
    x.enter(0, 0, 0);
    x.block(3);
    x.track(0);
    check.is("a CORE is inside since", x.victim(), N);
    x.leave(0);
    x.enter(0, 0, 0);
    check.is("it came later", x.victim(), 3);
  }

  private static int paper(String text) {
    ClosedRooms x = new ClosedRooms();
    check.is("script " + text, Check.text(x, 1, text), 0);
    return x.paper(0);
  }

  private static void promise45Paper() {
    ClosedRooms x = new ClosedRooms();
    check.is("no such SCRIPT", x.paper(0), H);
    Check.text(x, 1, "create 2");
    check.is("SCRIPT 1", x.paper(1), H);
    for (int odd : ODD) check.is("SCRIPT " + odd, x.paper(odd), H);
    check.is("no create", paper("slots;add 0,0,0,1,1;extend 0,0"), H);
    check.is("create 0", paper("create 0"), 7);
    check.is("create 999", paper("create 999"), 1006);
    check.is("ahead of create", paper("add 0,0,0,1,5;extend 0,0;create 1"), 8);
    check.is("later creates", paper("create 1;create 2;add 9,0,0,1,5"), 31 * 8 + 1);
    check.is("add", paper("create 1;add 3,999,998,997,996"), 31 * 8 + 64 * 999 + 8 * 998 + 997);
    check.is("extend without add", paper("create 1;extend 0,5"), 31 * 8 + 1000);
    check.is("add ahead of create is none", paper("add 0,5,0,1,77;create 1;extend 0,5"), 31 * 8 + 1000);
    int after = 31 * (31 * (31 * 8 + 321) + 321) + 1000;
    check.is("the latest add", paper("create 1;add 0,5,0,1,77;add 1,5,0,1,78;extend 2,5"), after + 78);
    check.is("an add behind", paper("create 1;add 0,5,0,1,77;extend 0,5;add 0,5,0,1,78"),
        31 * (31 * (31 * 8 + 321) + 1077) + 321);
    check.is("add of another", paper("create 1;add 0,5,0,1,77;add 0,6,0,1,78;extend 0,5"), 31 * (31 * (31 * 8 + 321) + 385) + 1077);
    check.is("others are left out", paper("create 1;seal 0;enter 0,0,0;map 0,0,0;remove 3;slots;leave 0"), 8);
    int round = 8;
    for (int i = 0; i < 11; i++) round = 31 * round + 64 * 999 + 8 * 999 + 999;
    String add = ";add 0,999,999,999,0";
    StringBuilder many = new StringBuilder("create 1");
    for (int i = 0; i < 11; i++) many.append(add);
    check.is("going round", paper(many.toString()), round);
  }

  private static void promise46Alike() {
    ClosedRooms x = Check.machine("pages 10");
    x.create(2);
    x.create(2);
    x.create(3);
    check.is("alike", x.alike(0, 1), true);
    check.is("alike", x.alike(1, 0), true);
    check.is("not alike", x.alike(0, 2), false);
    check.is("both are one", x.alike(0, 0), false);
    check.is("no such ROOM", x.alike(0, 3), false);
    check.is("no such ROOM", x.alike(3, 0), false);
    check.is("no such ROOMS", x.alike(3, 3), false);
    for (int odd : ODD) {
      check.is("ROOM " + odd, x.alike(odd, 0), false);
      check.is("ROOM " + odd, x.alike(0, odd), false);
    }
    x.add(0, 0, 0, 1, 5);
    check.is("not alike any more", x.alike(0, 1), false);
    x.add(1, 0, 0, 1, 6);
    check.is("VALUES are not measured by ADD", x.alike(0, 1), true);
    x.extend(0, 0);
    x.extend(1, 0);
    check.is("but by EXTEND", x.alike(0, 1), false);
    check.is("no MACHINE", new ClosedRooms().alike(0, 1), false);
  }

  private static void spells(ClosedRooms x, int page, String due) {
    check.is("spell(" + page + ", -1)", x.spell(page, N), due.length());
    for (int i = 0; i < due.length(); i++) check.is("spell(" + page + ", " + i + ")", x.spell(page, i), due.charAt(i));
    check.is("spell behind", x.spell(page, due.length()), N);
    check.is("spell -2", x.spell(page, -2), N);
    check.is("spell MIN", x.spell(page, Check.MIN), N);
    check.is("spell MAX", x.spell(page, Check.MAX), N);
  }

  private static void promise47Spell() {
    ClosedRooms x = Check.machine("pages 10");
    for (int i = 0; i < 4; i++) x.create(1);
    x.slots();
    x.add(3, 0, 1, 1, 1);
    x.add(2, 0, 0, 1, 1);
    spells(x, 0, "room 0 page 0");
    spells(x, 3, "room 3 page 3");
    spells(x, 4, "slots 4");
    spells(x, 5, "room 3 page 5");
    spells(x, 6, "room 2 page 6");
    spells(x, 9, "free 9");
    check.is("PAGE 10", x.spell(10, N), N);
    for (int odd : ODD) check.is("PAGE " + odd, x.spell(odd, 0), N);
    check.is("no MACHINE", new ClosedRooms().spell(0, N), N);
  }
}
