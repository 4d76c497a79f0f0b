/** Promises 1 to 6 and 48: the TAPE, MACHINES and SCRIPTS as TEXTS. */
public final class TextsTest {
  private static final Check check = new Check("TextsTest");
  private static final int N = Check.N;
  private static final int H = Check.H;
  private static final String TWELVE = "slots;slots;slots;slots;slots;slots;slots;slots;slots;slots;slots;slots";

  public static void main(String[] args) {
    promise1ANewObject();
    promise2Feed();
    promise3End();
    promise4FaultOfMachines();
    promise4FaultOfScripts();
    promise4FaultOfEveryWord();
    promise5TextOfMachines();
    promise5NewMachine();
    promise5NothingOfAnother();
    promise5TextOfScripts();
    promise6Rule();
    promise48Step();
    check.finish();
  }

  private static void promise1ANewObject() {
    ClosedRooms x = new ClosedRooms();
    check.is("new rule(0)", x.rule(0), N);
    check.is("new count(0)", x.count(0), 0);
    check.is("new count(1)", x.count(1), 0);
    check.is("new count(2)", x.count(2), 0);
    check.is("new count(3)", x.count(3), 0);
    check.is("new count(4)", x.count(4), 0);
    check.is("new status", Check.status(x), 0);
    check.is("new page(0, 0)", x.page(0, 0), H);
    check.is("new all(0)", x.all(0), H);
    check.is("new slots()", x.slots(), N);
    check.is("new status(0)", x.status(0), 1);
    check.is("new room(0, 0)", Check.room(x, 0, 0), Check.NO_SUCH_ELEMENT);
  }

  private static void promise2Feed() {
    ClosedRooms x = new ClosedRooms();
    check.is("feed zeros", x.feed(0, 0, 0, 0, 0), 0);
    check.is("feed highest first", x.feed(0x6b657920, 0x37000000, 0, 0, 0), 5);
    check.is("that is 'key 7'", x.fault(0), N);
    x.end(0);
    check.is("feed leaves zeros out", x.feed(0x006b0065, 0x00790020, 0x00000037, 0, 0x20), 6);
    check.is("that is 'key 7 '", x.fault(0), N);
    check.is("text of it", x.text(0), 8);
    check.is("rule 3", x.rule(3), 7);
    check.is("bytes above 127", x.feed(-1, -1, -1, -1, -1), 20);
    check.is("they are any other byte", x.fault(0), 0);
    for (int i = 2; i <= 15; i++) check.is("feed twenty more", x.feed(-1, Check.MIN + 0x010101, 1 << 24, 0x01010101, 0x7f7f7f7f), 20 + 17 * (i - 1));
    check.is("count(2)", x.count(2), 258);
    check.is("up to 318", x.feed(-1, -1, -1, -1, -1) + x.feed(-1, -1, -1, -1, -1) + x.feed(-1, -1, -1, -1, -1), 278 + 298 + 318);
    check.is("three more are too many", x.feed(0, 0x010100, 0, 0, 1), N);
    check.is("nothing came", x.count(2), 318);
    check.is("two more", x.feed(0x01000000, 0, 0, 0, 1), 320);
    check.is("one more", x.feed(0, 0, 0, 0, 1), N);
    check.is("none more", x.feed(0, 0, 0, 0, 0), 320);
    int one = 1 << 16;
    int[][] singles = {{one, 0, 0, 0, 0}, {0, one, 0, 0, 0}, {0, 0, one, 0, 0}, {0, 0, 0, one, 0}, {0, 0, 0, 0, one}};
    for (int[] s : singles) check.is("one more, wherever it is", x.feed(s[0], s[1], s[2], s[3], s[4]), N);
    check.is("count(2) full", x.count(2), 320);
  }

  private static void promise3End() {
    ClosedRooms x = new ClosedRooms();
    check.is("end(0) of none", x.end(0), true);
    check.is("end(1) of none", x.end(1), false);
    Check.put(x, "key 77");
    check.is("end(7)", x.end(7), false);
    check.is("end(-1)", x.end(-1), false);
    check.is("end(MIN)", x.end(Check.MIN), false);
    check.is("end(MAX)", x.end(Check.MAX), false);
    check.is("nothing went", x.count(2), 6);
    check.is("end(6)", x.end(6), true);
    check.is("still six", x.count(2), 6);
    check.is("end(5)", x.end(5), true);
    check.is("five", x.count(2), 5);
    x.text(0);
    check.is("the first five stayed", x.rule(3), 7);
    check.is("a text empties the TAPE", x.end(1), false);
  }

  private static void machineFault(String text, int due) {
    ClosedRooms x = new ClosedRooms();
    check.is("machine '" + text + "'", Check.fault(x, 0, text), due);
    check.is("asking changes no TAPE", x.count(2), text.length());
    check.is("taken '" + text + "'", x.text(0) == N, due != N);
    check.is("the TAPE then", x.count(2), due == N ? 0 : text.length());
  }

  private static void scriptFault(String text, int due) {
    ClosedRooms x = new ClosedRooms();
    check.is("script '" + text + "'", Check.fault(x, 1, text), due);
    check.is("taken '" + text + "'", x.text(1), due == N ? 0 : N);
    check.is("the TAPE then", x.count(2), due == N ? 0 : text.length());
  }

  private static void promise4FaultOfMachines() {
    machineFault("", 0);
    machineFault("   ", 3);
    machineFault("pages 3", N);
    machineFault("pages 10", N);
    machineFault("pages 2", 6);
    machineFault("pages 11", 6);
    machineFault("pages 0", 6);
    machineFault("cores 1;hold 3;key 999;pages 3", N);
    machineFault("cores 0", 6);
    machineFault("cores 3", N);
    machineFault("cores 4", 6);
    machineFault("hold 1", N);
    machineFault("hold 0", 5);
    machineFault("hold 4", 5);
    machineFault("key 1", N);
    machineFault("key 0", 4);
    machineFault("key 1000", 4);
    machineFault("key 0000000000000000000000999", N);
    machineFault("key 0000000000000000000001000", 4);
    machineFault("key 99999999999999999999999999999999", 4);
    machineFault("key 4294967303", 4);
    machineFault("key007", N);
    machineFault("  key   7  ;  hold  1  ", N);
    machineFault("key", 3);
    machineFault("key  ", 5);
    machineFault("key;", 3);
    machineFault("key key", 4);
    machineFault("key ,7", 4);
    machineFault("key -7", 4);
    machineFault("key 7;", 6);
    machineFault("key 7; ", 7);
    machineFault("key 7;;hold 1", 6);
    machineFault(";key 7", 0);
    machineFault("7", 0);
    machineFault(",", 0);
    machineFault("key 7,", 5);
    machineFault("key 7,8", 5);
    machineFault("key 7 8", 6);
    machineFault("key 7x", 5);
    machineFault("key 7 hold 1", 6);
    machineFault("key 7;key 8", 6);
    machineFault("key 7; key 8", 7);
    machineFault("key 7;hold 2;key 7", 13);
    machineFault("key 0;key 8", 4);
    machineFault("keys 7", 0);
    machineFault("ke 7", 0);
    machineFault("page s 7", 0);
    machineFault("keY 7", 0);
    machineFault("keyX 7", 3);
    machineFault("Key 7", 0);
    machineFault("xey 7", 0);
    machineFault("keyz 7", 0);
    machineFault("akey 7", 0);
    machineFault(" ".repeat(315) + "key 7", N);
    machineFault(" ".repeat(317) + "key", 320);
    machineFault("key 7" + " ".repeat(315), N);
    machineFault("key " + "0".repeat(315) + "7", N);
    machineFault("key\t7", 3);
    machineFault("key 7\n", 5);
    machineFault("key 7" + (char) 233, 5);
    machineFault("key " + (char) 160 + "7", 4);
    machineFault("key 7`", 5);
    machineFault("key 7{", 5);
    machineFault("{", 0);
    machineFault("key /", 4);
    machineFault("key :", 4);
    machineFault("create 1", 0);
    machineFault("pages 3;cores 1;hold 1;key 1;", 29);
    machineFault("pages 3;cores 1;hold 1;key 1;create", 29);
  }

  private static void promise4FaultOfScripts() {
    scriptFault("", 0);
    scriptFault(" ", 1);
    scriptFault("slots", N);
    scriptFault(" slots ; slots ", N);
    scriptFault("slots;", 6);
    scriptFault("slots,", 5);
    scriptFault("slots 0", 6);
    scriptFault("slots slots", 6);
    scriptFault("slots0", 5);
    scriptFault("create 0", N);
    scriptFault("create 999", N);
    scriptFault("create 1000", 7);
    scriptFault("create 000000000999", N);
    scriptFault("create 1,", 8);
    scriptFault("create 1 , 2", 9);
    scriptFault("create 1 2", 9);
    scriptFault("create", 6);
    scriptFault("create;slots", 6);
    scriptFault("create,1", 6);
    scriptFault("create -1", 7);
    scriptFault("add 0 , 0 , 0 , 1 , 1", N);
    scriptFault("add 0,0,0,1", 11);
    scriptFault("add 0,0,0,1,", 12);
    scriptFault("add 0,0,0,1;", 11);
    scriptFault("add 0,0,0,1 5", 12);
    scriptFault("add 0,0,0,1,5,", 13);
    scriptFault("add 0,0,0,1,5,6", 13);
    scriptFault("add 0,,0,1,5", 6);
    scriptFault("add 0,0,0,1000,1000", 10);
    scriptFault("add 0,0,0,x", 10);
    scriptFault("add 0,0,0,999,999", N);
    scriptFault("map 0,0,-1", 8);
    scriptFault("map 0,0", 7);
    scriptFault("pages 3", 0);
    scriptFault("twice 0", 0);
    scriptFault("slot", 0);
    scriptFault("xlots", 0);
    scriptFault("slotsz", 0);
    scriptFault(" ".repeat(315) + "slots", N);
    scriptFault(" ".repeat(316) + "slot", 316);
    scriptFault("map 0,0," + "0".repeat(312), N);
    scriptFault("creates 1", 0);
    scriptFault("slots;create 1;create 1", N);
    scriptFault(TWELVE, N);
    scriptFault(TWELVE + "  ", N);
    scriptFault(TWELVE + " ;slots", 72);
    scriptFault(TWELVE + ";slots", 71);
    scriptFault(TWELVE + ";", 71);
    scriptFault(TWELVE + ",", 71);
    scriptFault(TWELVE + "x", 66);
    ClosedRooms x = new ClosedRooms();
    Check.put(x, "slots");
    check.is("fault(2)", x.fault(2), -2);
    check.is("fault(-1)", x.fault(-1), -2);
    check.is("fault(MIN)", x.fault(Check.MIN), -2);
    check.is("fault(MAX)", x.fault(Check.MAX), -2);
    check.is("fault(0) of a script", x.fault(0), 0);
    check.is("fault(1) of a script", x.fault(1), N);
  }

  private static void promise4FaultOfEveryWord() {
    String[] words = {"create", "slots", "add", "extend", "seal", "enter", "leave", "trap", "resume", "touch", "block",
        "track", "evict", "load", "remove", "map"};
    int[] numbers = {1, 0, 5, 2, 1, 3, 1, 1, 3, 3, 1, 1, 3, 3, 1, 3};
    for (int i = 0; i < words.length; i++) {
      StringBuilder text = new StringBuilder(words[i]);
      for (int k = 0; k < numbers[i]; k++) {
        scriptFault(text.toString(), text.length());
        text.append(k == 0 ? " " : ",").append(k + 1);
      }
      scriptFault(text.toString(), N);
      scriptFault(text + ",9", text.length());
      ClosedRooms x = new ClosedRooms();
      Check.text(x, 1, text.toString());
      check.is("sort of " + text, x.step(0, 0, 0), i);
      for (int k = 1; k <= 5; k++) check.is("number of " + text, x.step(0, 0, k), k <= numbers[i] ? k : N);
    }
  }

  private static void promise5TextOfMachines() {
    ClosedRooms x = new ClosedRooms();
    check.is("text(0) of none", x.text(0), N);
    Check.put(x, "pages 4");
    check.is("text(2)", x.text(2), N);
    check.is("text(-1)", x.text(-1), N);
    check.is("text(MAX)", x.text(Check.MAX), N);
    check.is("text(1) of a machine", x.text(1), N);
    check.is("the TAPE stayed", x.count(2), 7);
    check.is("text(0)", x.text(0), 4);
    check.is("the TAPE is empty", x.count(2), 0);
    check.is("all FREE", x.all(0), 15);
    check.is("page 3", x.page(3, 0), 0);
    check.is("page 4", x.page(4, 0), H);
    check.is("core 1", x.core(1, 0), 0);
    check.is("core 2", x.core(2, 0), H);
  }

  private static void promise5NewMachine() {
    ClosedRooms x = new ClosedRooms();
    check.is("a script without MACHINE", Check.text(x, 1, "create 2"), 0);
    check.is("refused without MACHINE", x.create(1), N);
    Check.text(x, 0, "pages 10;cores 3");
    x.create(2);
    x.slots();
    x.add(0, 0, 1, 4, 5);
    x.tell(2, 9);
    x.seal(0, Check.room(x, 0, 3));
    x.enter(1, 0, 0);
    x.create(9);
    x.create(1);
    x.evict(3, 1, 0);
    x.image();
    check.is("acts so far", x.count(3) * 100 + x.count(4), 808);
    check.is("a COPY lies", x.all(3), 1);
    Check.text(x, 0, "key 0");
    check.is("a FAULT leaves the MACHINE", x.count(3) * 100 + x.count(4), 808);
    check.is("the same MACHINE anew", Check.text(x, 0, "pages 10;cores 3"), 10);
    check.is("all FREE", x.all(0), 1023);
    check.is("no ROOM", x.all(1), 0);
    check.is("none inside", x.all(2), 0);
    check.is("no COPY", x.all(3), 0);
    check.is("no VERSION given", x.all(4), 0);
    check.is("no SERIAL given", x.all(5), 0);
    check.is("REGISTER", x.core(2, 0), 0);
    check.is("no LOG", x.count(3), 0);
    check.is("none to be UNDONE", x.undo(), N);
    check.is("no IMAGE of it", x.back(), N);
    check.is("SCRIPTS stay", x.count(1), 1);
    check.is("STATUS stays", Check.status(x), 11000);
    check.is("the SCRIPT is the same", x.perform(0), 1);
    check.is("SERIALS begin again", Check.room(x, 0, 0), 1);
    check.is("hold is the one without", x.rule(2), 2);
  }

  private static void promise5NothingOfAnother() {
    ClosedRooms x = Check.houseWithCopy();
    x.tell(0, 5);
    x.enter(0, 0, 0);
    x.touch(0, 2, 0);
    x.track(0);
    x.create(2);
    x.add(1, 0, 1, 1, 1);
    x.slots();
    x.block(5);
    x.track(1);
    x.evict(5, 6, 0);
    x.evict(3, 6, 1);
    Check.text(x, 0, "cores 3");
    for (int core = 0; core < 3; core++) {
      check.is("REGISTER", x.core(core, 0), 0);
      for (int what = 1; what < 4; what++) check.is("outside", x.core(core, what), N);
      check.is("SEES nothing", x.core(core, 4), 0);
      check.is("SEES nothing", x.seen(core, 0, 0), N);
    }
    x.create(3);
    x.create(3);
    for (int room = 0; room < 2; room++) {
      int[] due = {room + 1, 3, 1, 10, 0, 0, 0, 0, 0};
      for (int what = 0; what < 9; what++) check.is("a new ROOM", Check.room(x, room, what), due[what]);
      for (int i = 0; i < 3; i++) check.is("its MAP", x.mapped(room, i), N);
    }
    for (int page = 2; page < 8; page++) {
      check.is("slots", x.slots(), page);
      for (int slot = 0; slot < 4; slot++) check.is("empty", x.version(page, slot), 0);
    }
    check.is("the first VERSION", x.evict(0, 2, 0), 0);
    check.is("it is 1", x.copyOf(0, 4), 1);
  }

  private static void promise5TextOfScripts() {
    ClosedRooms x = new ClosedRooms();
    for (int i = 0; i < 4; i++) check.is("script", Check.text(x, 1, "create " + (i + 1)), i);
    check.is("a fifth", Check.text(x, 1, "slots"), N);
    check.is("the TAPE stays", x.count(2), 5);
    check.is("four", x.count(1), 4);
    for (int i = 0; i < 4; i++) check.is("they are as they were told", x.step(i, 0, 1), i + 1);
    check.is("a MACHINE yet", Check.text(x, 0, "pages 5"), 5);
    ClosedRooms y = new ClosedRooms();
    check.is("a FAULT is no SCRIPT", Check.text(y, 1, "slots;"), N);
    check.is("none is there", y.count(1), 0);
    check.is("nor read of it", y.step(0, 0, 0), H);
  }

  private static void promise6Rule() {
    ClosedRooms x = new ClosedRooms();
    for (int i = -1; i < 5; i++) check.is("rule without MACHINE", x.rule(i), N);
    Check.text(x, 0, "hold 3");
    check.is("pages without", x.rule(0), 8);
    check.is("cores without", x.rule(1), 2);
    check.is("hold", x.rule(2), 3);
    check.is("key without", x.rule(3), 7);
    Check.text(x, 0, "key 999;cores 1;pages 3");
    check.is("pages", x.rule(0), 3);
    check.is("cores", x.rule(1), 1);
    check.is("hold without", x.rule(2), 2);
    check.is("key", x.rule(3), 999);
    check.is("rule(4)", x.rule(4), N);
    check.is("rule(-1)", x.rule(-1), N);
    check.is("rule(MIN)", x.rule(Check.MIN), N);
    check.is("rule(MAX)", x.rule(Check.MAX), N);
    Check.fault(x, 0, "key 5;pages 10");
    check.is("fault tells no MACHINE", x.rule(3), 999);
  }

  private static void promise48Step() {
    ClosedRooms x = new ClosedRooms();
    check.is("step without SCRIPT", x.step(0, 0, 0), H);
    Check.text(x, 1, "add 1,002,3,4,555;slots");
    Check.text(x, 1, "map 9,8,7");
    int[] due = {2, 1, 2, 3, 4, 555};
    for (int i = 0; i < 6; i++) check.is("step(0, 0, " + i + ")", x.step(0, 0, i), due[i]);
    check.is("slots", x.step(0, 1, 0), 1);
    for (int i = 1; i < 6; i++) check.is("slots has no numbers", x.step(0, 1, i), N);
    check.is("map", x.step(1, 0, 0), 15);
    check.is("map 3rd", x.step(1, 0, 3), 7);
    check.is("map 4th", x.step(1, 0, 4), N);
    check.is("what 6", x.step(0, 0, 6), H);
    check.is("what -1", x.step(0, 0, -1), H);
    check.is("no such STEP", x.step(0, 2, 0), H);
    check.is("STEP -1", x.step(0, -1, 0), H);
    check.is("STEP MAX", x.step(0, Check.MAX, 0), H);
    check.is("SCRIPT 2", x.step(2, 0, 0), H);
    check.is("SCRIPT -1", x.step(-1, 0, 0), H);
    check.is("SCRIPT MIN", x.step(Check.MIN, Check.MIN, Check.MIN), H);
    check.is("what MAX", x.step(0, 0, Check.MAX), H);
    Check.fault(x, 1, "create 5;create 6;create 7");
    check.is("fault tells no SCRIPT", x.step(1, 0, 0), 15);
  }
}
