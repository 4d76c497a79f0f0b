/** Promises 1 to 6 and 48, edge by edge: the TAPE, MACHINES and SCRIPTS as TEXTS. */
public final class EdgesOfTextsTest {
  private static final Check check = new Check("EdgesOfTextsTest");
  private static final int N = Check.N;
  private static final int H = Check.H;
  private static final Edge.Make NEW = Edge.NEW;
  private static final Edge.Make HOUSE = Edge.HOUSE;
  private static final int MACHINE = 0;
  private static final int SCRIPT = 1;
  private static final String[] WORDS = {"create", "slots", "add", "extend", "seal", "enter", "leave", "trap", "resume", "touch",
      "block", "track", "evict", "load", "remove", "map"};
  private static final int[] NUMBERS = {1, 0, 5, 2, 1, 3, 1, 1, 3, 3, 1, 1, 3, 3, 1, 3};
  private static final String[] RULES = {"pages", "cores", "hold", "key"};
  private static final int[] LEAST = {3, 1, 1, 1};
  private static final int[] MOST = {10, 3, 3, 999};
  private static final int[] WITHOUT = {8, 2, 2, 7};

  public static void main(String[] args) {
    promise1EveryCall();
    promise1FiveHundredAndTwelveCalls();
    promise2Feed();
    promise2FeedZeros();
    promise2FeedFull();
    promise3End();
    promise3EndLeavesNothingBehind();
    promise4NoSuchSort();
    promise4Rules();
    promise4Numbers();
    promise4EachWordOnce();
    promise4EndsTooEarly();
    promise4EveryByte();
    promise4Blanks();
    promise4Steps();
    promise4StepNumbers();
    promise4ThirteenthStep();
    promise4WhatCantBeIsNoFault();
    promise5Machine();
    promise5AllOfAnotherIsGone();
    promise5Scripts();
    promise5Refused();
    promise6Rule();
    promise48Step();
    check.finish();
  }

  private static void faultIs(Edge e, int sort, String text, int due) {
    e.is((sort == MACHINE ? "MACHINE '" : "SCRIPT '") + text + "'", Check.fault(new ClosedRooms(), sort, text), due);
  }

  /** No MACHINE: what each call answers that is refused by it. */
  private static void promise1EveryCall() {
    Edge e = new Edge(check, "1 (a new object)");
    Edge.Call[] none = {x -> x.text(0), x -> x.text(1), x -> x.rule(0), x -> x.version(0, 0), x -> x.mapped(0, 0), x -> x.seen(0, 0, 0),
        x -> x.undo(), x -> x.old(), x -> x.twins(0), x -> x.waits(0), x -> x.leaks(0), x -> x.lies(0), x -> x.victim(),
        x -> x.spell(0, 0), x -> x.spell(0, N), x -> x.perform(0), x -> x.image(), x -> x.back(), x -> x.status(5)};
    for (int i = 0; i < none.length; i++) e.same("NONE, call " + i, NEW, none[i], N);
    Edge.Call[] hidden = {x -> x.page(0, 0), x -> x.core(0, 0), x -> x.copyOf(0, 0), x -> x.report(0, 0), x -> x.log(0, 0),
        x -> x.paper(0), x -> x.step(0, 0, 0), x -> x.run(0, 0), x -> x.all(0), x -> x.count(5)};
    for (int i = 0; i < hidden.length; i++) e.same("HIDDEN, call " + i, NEW, hidden[i], H);
    Edge.Call[] zero = {x -> x.status(0), x -> x.status(4), x -> x.count(0), x -> x.count(1), x -> x.count(2), x -> x.count(3),
        x -> x.count(4), x -> x.feed(0, 0, 0, 0, 0), x -> x.fault(0), x -> x.fault(1), x -> x.alike(0, 1) ? 1 : 0,
        x -> x.proves(0, 0, 0, 0) ? 1 : 0, x -> x.end(1) ? 1 : 0};
    for (int i = 0; i < zero.length; i++) e.same("0, call " + i, NEW, zero[i], 0);
    e.same("end(0)", NEW, x -> x.end(0) ? 1 : 0, 1);
    e.same("room", NEW, x -> Check.room(x, 0, 0), Check.NO_SUCH_ELEMENT);
  }

  private static void promise1FiveHundredAndTwelveCalls() {
    Edge e = new Edge(check, "1 (512 calls)");
    ClosedRooms x = new ClosedRooms();
    x.feed(0x6b657920, 0x39000000, 0, 0, 0);
    x.text(0);
    for (int i = 3; i < 512; i++) x.tell(0, i % 1000);
    e.is("the 512th call", x.core(0, 0), 511);
  }

  private static void promise2Feed() {
    Edge e = new Edge(check, "2 (feed)");
    e.looks("twenty bytes more", NEW, x -> x.feed(0x01020304, 0x05060708, 0x090a0b0c, 0x0d0e0f10, 0x11121314), 20);
    e.looks("numbers below 0 are four bytes each", NEW, x -> x.feed(Check.MIN | 0x010101, -1, -2, N, 0x80ffffff), 20);
    String text = "cores 3;hold 3;key 2";
    int[] numbers = new int[5];
    for (int i = 0; i < 20; i++) numbers[i / 4] = numbers[i / 4] << 8 | text.charAt(i);
    ClosedRooms x = new ClosedRooms();
    e.is("of each number the highest first", x.feed(numbers[0], numbers[1], numbers[2], numbers[3], numbers[4]), 20);
    e.is("behind what the TAPE has", x.feed(0x34, 0, 0, 0, 0), 21);
    e.is("it is that MACHINE", x.text(0), 8);
    e.is("with all of its bytes", x.rule(1) * 10000 + x.rule(2) * 1000 + x.rule(3), 33024);
  }

  /** Bytes of 0 are left out, wherever they are. */
  private static void promise2FeedZeros() {
    Edge e = new Edge(check, "2 (feed)");
    e.same("all zeros", NEW, x -> x.feed(0, 0, 0, 0, 0), 0);
    e.same("all zeros", Edge.after(HOUSE, x -> Check.put(x, "key")), x -> x.feed(0, 0, 0, 0, 0), 3);
    for (int place = 0; place < 20; place++) {
      int[] numbers = new int[5];
      numbers[place / 4] = 0x61 << (24 - 8 * (place % 4));
      ClosedRooms x = new ClosedRooms();
      e.is("one byte, at " + place, x.feed(numbers[0], numbers[1], numbers[2], numbers[3], numbers[4]), 1);
      for (int i = 0; i < 5; i++) numbers[i] = -1;
      numbers[place / 4] &= ~(0xff << (24 - 8 * (place % 4)));
      e.is("nineteen bytes, none at " + place, x.feed(numbers[0], numbers[1], numbers[2], numbers[3], numbers[4]), 20);
    }
  }

  private static Edge.Call tapeOf(int bytes) {
    return x -> {
      x.end(0);
      return Check.put(x, "k".repeat(bytes));
    };
  }

  private static void promise2FeedFull() {
    Edge e = new Edge(check, "2 (feed)");
    e.looks("300 and twenty are 320", Edge.after(NEW, tapeOf(300)), x -> x.feed(-1, -1, -1, -1, -1), 320);
    e.same("301 and twenty are more than 320", Edge.after(NEW, tapeOf(301)), x -> x.feed(-1, -1, -1, -1, -1), N);
    e.looks("301 and nineteen are 320", Edge.after(NEW, tapeOf(301)), x -> x.feed(-1, -1, 0xff00ffff, -1, -1), 320);
    e.looks("319 and one are 320", Edge.after(NEW, tapeOf(319)), x -> x.feed(0, 0, 0, 0, 1), 320);
    e.same("319 and two are more than 320", Edge.after(NEW, tapeOf(319)), x -> x.feed(1, 0, 0, 0, 1), N);
    e.same("320 and none are 320", Edge.after(NEW, tapeOf(320)), x -> x.feed(0, 0, 0, 0, 0), 320);
    for (int place = 0; place < 20; place++) {
      int[] n = new int[5];
      n[place / 4] = 1 << (24 - 8 * (place % 4));
      e.same("320 and one are more than 320", Edge.after(HOUSE, tapeOf(320)), x -> x.feed(n[0], n[1], n[2], n[3], n[4]), N);
    }
    ClosedRooms x = Edge.after(NEW, tapeOf(320)).make();
    x.feed(1, 0, 0, 0, 0);
    x.end(319);
    e.is("it can be fed again", x.feed(1, 0, 0, 0, 0), 320);
  }

  private static void promise3End() {
    Edge e = new Edge(check, "3 (end)");
    int[] lengths = {0, 1, 20, 319, 320};
    for (int length : lengths) {
      Edge.Make make = Edge.after(NEW, tapeOf(length));
      e.same("all of " + length, make, x -> x.end(length) ? 1 : 0, 1);
      e.same("one more than " + length, make, x -> x.end(length + 1) ? 1 : 0, 0);
      e.is("none of " + length, make.make().end(0), true);
      for (int far : Edge.FAR) e.same(far + " of " + length, make, x -> x.end(far) ? 1 : 0, 0);
    }
    ClosedRooms x = Edge.after(NEW, y -> Check.put(y, "key 789")).make();
    e.is("one less", x.end(6), true);
    e.is("that is 'key 78'", x.text(0) * 100 + x.rule(3), 878);
    x = Edge.after(NEW, y -> Check.put(y, "key 789")).make();
    x.end(5);
    Check.put(x, "6");
    e.is("first n bytes alone, fed again", x.text(0) * 100 + x.rule(3), 876);
  }

  /** What stood behind the first n bytes is read no more. */
  private static void promise3EndLeavesNothingBehind() {
    Edge e = new Edge(check, "3 (end)");
    String[] texts = {"extend 1,2;slots", "key 7 ; hold 3", "add 1 , 22 , 3 , 4 , 5 ; leave 1 ", "pages 10"};
    for (String text : texts) {
      for (int n = 0; n <= text.length(); n++) {
        ClosedRooms x = new ClosedRooms();
        Check.put(x, text);
        x.end(n);
        for (int sort = 0; sort < 2; sort++) {
          int due = Check.fault(new ClosedRooms(), sort, text.substring(0, n));
          e.is("the first " + n + " bytes of '" + text + "' alone, sort " + sort, x.fault(sort), due);
        }
      }
    }
  }

  private static void promise4NoSuchSort() {
    Edge e = new Edge(check, "4 (fault)");
    int[] sorts = {2, -1, -2, Check.MIN, Check.MAX, H, 256, 1 << 31 | 1};
    for (String text : new String[] {"", "key 7", "slots"}) {
      for (int sort : sorts) e.same("no such sort " + sort, Edge.after(NEW, x -> Check.put(x, text)), x -> x.fault(sort), -2);
    }
    e.same("as a MACHINE", Edge.after(HOUSE, x -> Check.put(x, "key 9")), x -> x.fault(0), N);
    e.same("a MACHINE as a SCRIPT", Edge.after(HOUSE, x -> Check.put(x, "key 9")), x -> x.fault(1), 0);
    e.same("as a SCRIPT", Edge.after(HOUSE, x -> Check.put(x, "slots;create 2")), x -> x.fault(1), N);
    e.same("a SCRIPT as a MACHINE", Edge.after(HOUSE, x -> Check.put(x, " slots;create 2")), x -> x.fault(0), 1);
  }

  private static void promise4Rules() {
    Edge e = new Edge(check, "4 (fault, bounds)");
    for (int i = 0; i < 4; i++) {
      int at = RULES[i].length() + 1;
      for (int number = 0; number <= 1001; number++) {
        if (number > 12 && number < 990) continue;
        faultIs(e, MACHINE, RULES[i] + " " + number, number < LEAST[i] || number > MOST[i] ? at : N);
      }
      faultIs(e, MACHINE, RULES[i] + " -" + LEAST[i], at);
      faultIs(e, MACHINE, RULES[i] + LEAST[i], N);
      faultIs(e, MACHINE, RULES[i] + (MOST[i] + 1), at - 1);
    }
  }

  /** It goes by what it is worth, also past the end of an int and of a long. */
  private static void promise4Numbers() {
    Edge e = new Edge(check, "4 (fault, numbers)");
    faultIs(e, MACHINE, "key 007", N);
    faultIs(e, MACHINE, "key 0", 4);
    faultIs(e, MACHINE, "key 000", 4);
    faultIs(e, MACHINE, "key 0999", N);
    faultIs(e, MACHINE, "key 01000", 4);
    String[] past = {"2147483647", "2147483648", "4294967295", "4294967296", "4294967297", "4294967303", "8589934599",
        "9223372036854775807", "9223372036854775808", "18446744073709551616", "18446744073709551623", "10000000000000000000000007"};
    for (String number : past) {
      faultIs(e, MACHINE, "key " + number, 4);
      faultIs(e, MACHINE, "pages " + number, 6);
      faultIs(e, SCRIPT, "leave " + number, 6);
      faultIs(e, SCRIPT, "map 1,2," + number, 8);
    }
    faultIs(e, MACHINE, "key " + "0".repeat(313) + "999", N);
    faultIs(e, MACHINE, "key " + "0".repeat(312) + "1000", 4);
    faultIs(e, MACHINE, "key " + "9".repeat(316), 4);
    faultIs(e, MACHINE, "key 7" + "0".repeat(315), 4);
    faultIs(e, SCRIPT, "leave " + "0".repeat(314), N);
    faultIs(e, SCRIPT, "leave " + "9".repeat(314), 6);
    for (int i = 0; i < 10; i++) {
      ClosedRooms x = new ClosedRooms();
      Check.text(x, 0, "key " + "0".repeat(i) + "10" + i);
      e.is("each digit counts: 10" + i, x.rule(3), 100 + i);
    }
  }

  private static void promise4EachWordOnce() {
    Edge e = new Edge(check, "4 (fault, WORDS)");
    for (int i = 0; i < 4; i++) {
      for (int k = 0; k < 4; k++) {
        String first = RULES[i] + " 3";
        faultIs(e, MACHINE, first + ";" + RULES[k] + " 3", i == k ? first.length() + 1 : N);
        faultIs(e, MACHINE, first + " ; " + RULES[k] + " 3", i == k ? first.length() + 3 : N);
      }
      String cut = RULES[i].substring(0, RULES[i].length() - 1);
      faultIs(e, MACHINE, cut + " 3", 0);
      faultIs(e, MACHINE, RULES[i] + "s 3", 0);
      faultIs(e, MACHINE, "a" + RULES[i] + " 3", 0);
      faultIs(e, MACHINE, RULES[i].substring(1) + " 3", 0);
      faultIs(e, MACHINE, RULES[i].toUpperCase() + " 3", 0);
      faultIs(e, SCRIPT, RULES[i] + " 3", 0);
    }
    faultIs(e, MACHINE, "key 1;hold 1;cores 1;pages 3", N);
    faultIs(e, MACHINE, "key 1;hold 1;cores 1;pages 3;", 29);
    faultIs(e, MACHINE, "key 1;hold 1;cores 1;pages 3;hold 1", 29);
    faultIs(e, MACHINE, "key 1;key 0", 6);
    faultIs(e, MACHINE, "key 0;key 1", 4);
  }

  /** The length, if the TEXT ends too early. */
  private static void promise4EndsTooEarly() {
    Edge e = new Edge(check, "4 (fault, the length)");
    for (int sort = 0; sort < 2; sort++) {
      for (int blanks = 0; blanks <= 320; blanks += 80) faultIs(e, sort, " ".repeat(blanks), blanks);
      String whole = sort == MACHINE ? "key 7" : "leave 7";
      String word = sort == MACHINE ? "key" : "leave";
      for (String text : new String[] {word, word + " ", word + "   ", whole + ";", whole + " ; ", whole + ";" + " ".repeat(300)}) {
        faultIs(e, sort, text, text.length());
      }
    }
    for (int i = 0; i < 16; i++) {
      StringBuilder text = new StringBuilder(WORDS[i]);
      for (int k = 0; k < NUMBERS[i]; k++) {
        faultIs(e, SCRIPT, text.toString(), text.length());
        faultIs(e, SCRIPT, text + "  ", text.length() + 2);
        text.append(k == 0 ? " " : ",");
        faultIs(e, SCRIPT, text.toString(), text.length());
        text.append(7);
      }
      faultIs(e, SCRIPT, text.toString(), N);
      faultIs(e, SCRIPT, text + ";", text.length() + 1);
    }
  }

  /** Each byte at each kind of place: another part than must be, or any other byte. */
  private static void promise4EveryByte() {
    Edge e = new Edge(check, "4 (fault, byte)");
    for (int b = 1; b < 256; b++) {
      char c = (char) b;
      boolean digit = b >= '0' && b <= '9';
      boolean letter = b >= 'a' && b <= 'z';
      boolean blank = b == ' ';
      for (int sort = 0; sort < 2; sort++) {
        String word = sort == MACHINE ? "key" : "leave";
        int at = word.length();
        faultIs(e, sort, "" + c, blank ? 1 : 0);
        faultIs(e, sort, c + word + " 7", blank ? N : 0);
        int worth = sort == MACHINE && c == '0' ? at : N;
        faultIs(e, sort, word + c, letter ? 0 : blank ? at + 1 : digit ? worth : at);
        faultIs(e, sort, word + " " + c, blank ? at + 2 : !digit ? at + 1 : worth == N ? N : at + 1);
        faultIs(e, sort, word + " 7" + c, digit || blank ? N : c == ';' ? at + 3 : at + 2);
        faultIs(e, sort, word + " 7 " + c, blank ? N : c == ';' ? at + 4 : at + 3);
        faultIs(e, sort, word + " 7;" + c, blank ? at + 4 : at + 3);
      }
      faultIs(e, SCRIPT, "slots" + c, letter ? 0 : blank ? N : c == ';' ? 6 : 5);
      faultIs(e, SCRIPT, "extend 1" + c, digit || blank || c == ',' ? 9 : 8);
      faultIs(e, SCRIPT, "extend 1," + c, digit ? N : blank ? 10 : 9);
      faultIs(e, SCRIPT, "extend 1,2" + c, digit || blank ? N : c == ';' ? 11 : 10);
    }
  }

  private static void promise4Blanks() {
    Edge e = new Edge(check, "4 (fault, blanks)");
    faultIs(e, MACHINE, "  key  7  ;  hold  1  ", N);
    faultIs(e, MACHINE, "key 7;hold 1", N);
    faultIs(e, MACHINE, "key7;hold1", N);
    faultIs(e, SCRIPT, "  extend  1  ,  2  ;  slots  ;  leave  3  ", N);
    faultIs(e, SCRIPT, "extend1,2;slots;leave3", N);
    faultIs(e, SCRIPT, "ext end 1,2", 0);
    faultIs(e, SCRIPT, "extend 1 2", 9);
    faultIs(e, SCRIPT, "leave 1 2", 8);
    faultIs(e, SCRIPT, "leave 1;;slots", 8);
    faultIs(e, SCRIPT, "leave 1; ;slots", 9);
    faultIs(e, MACHINE, " ".repeat(315) + "key 7", N);
    faultIs(e, MACHINE, "key" + " ".repeat(316) + "7", N);
    faultIs(e, MACHINE, "key 7" + " ".repeat(315), N);
    faultIs(e, MACHINE, " ".repeat(316) + "key7", N);
    faultIs(e, SCRIPT, " ".repeat(315) + "slots", N);
    faultIs(e, SCRIPT, " ".repeat(315) + "slot7", 315);
    faultIs(e, SCRIPT, "slots" + " ".repeat(314) + "x", 319);
  }

  /** A STEP of each WORD has its numbers, no more and no fewer. */
  private static void promise4Steps() {
    Edge e = new Edge(check, "4 (fault, STEPS)");
    for (int i = 0; i < 16; i++) {
      StringBuilder text = new StringBuilder(WORDS[i]);
      for (int k = 0; k < NUMBERS[i]; k++) text.append(k == 0 ? " " : ",").append(k);
      faultIs(e, SCRIPT, text.toString(), N);
      faultIs(e, SCRIPT, text + ",7", text.length());
      faultIs(e, SCRIPT, text + " ,7", text.length() + 1);
      faultIs(e, SCRIPT, text + ",", text.length());
      faultIs(e, SCRIPT, text + " 7", text.length() + 1);
      faultIs(e, SCRIPT, text + ";" + text, N);
      faultIs(e, SCRIPT, text + " slots", text.length() + 1);
      faultIs(e, SCRIPT, WORDS[i] + "x", 0);
      faultIs(e, SCRIPT, WORDS[i].substring(1), 0);
      faultIs(e, SCRIPT, WORDS[i].substring(0, WORDS[i].length() - 1), 0);
      faultIs(e, SCRIPT, WORDS[i] + ",1", WORDS[i].length());
      faultIs(e, SCRIPT, WORDS[i] + ";", NUMBERS[i] == 0 ? WORDS[i].length() + 1 : WORDS[i].length());
      faultIs(e, MACHINE, text.toString(), 0);
    }
    for (String word : new String[] {"twice", "double", "change", "drop", "tell", "report", "undo", "image", "perform"}) {
      faultIs(e, SCRIPT, word + " 0", 0);
    }
  }

  private static void promise4StepNumbers() {
    Edge e = new Edge(check, "4 (fault, 0 .. 999)");
    for (int i = 0; i < 16; i++) {
      for (int k = 0; k < NUMBERS[i]; k++) {
        StringBuilder ahead = new StringBuilder(WORDS[i]).append(' ');
        for (int j = 0; j < k; j++) ahead.append("999,");
        StringBuilder behind = new StringBuilder();
        for (int j = k + 1; j < NUMBERS[i]; j++) behind.append(",0");
        faultIs(e, SCRIPT, ahead + "0" + behind, N);
        faultIs(e, SCRIPT, ahead + "999" + behind, N);
        faultIs(e, SCRIPT, ahead + "1000" + behind, ahead.length());
        faultIs(e, SCRIPT, ahead + "-1" + behind, ahead.length());
        faultIs(e, SCRIPT, ahead + "x" + behind, ahead.length());
        faultIs(e, SCRIPT, ahead + "," + behind, ahead.length());
      }
    }
  }

  private static String steps(int n) {
    StringBuilder text = new StringBuilder();
    for (int i = 0; i < n; i++) text.append(i == 0 ? "" : ";").append("leave ").append(i);
    return text.toString();
  }

  private static void promise4ThirteenthStep() {
    Edge e = new Edge(check, "4 (fault, 13th STEP)");
    for (int n = 1; n <= 12; n++) faultIs(e, SCRIPT, steps(n), N);
    int length = steps(12).length();
    faultIs(e, SCRIPT, steps(13), length);
    faultIs(e, SCRIPT, steps(14), length);
    faultIs(e, SCRIPT, steps(12) + " ;slots", length + 1);
    faultIs(e, SCRIPT, steps(12) + ";slots", length);
    faultIs(e, SCRIPT, steps(12) + ";nothing", length);
    faultIs(e, SCRIPT, steps(12) + ",1", length);
    faultIs(e, SCRIPT, steps(12) + "  ", N);
    ClosedRooms x = new ClosedRooms();
    e.is("twelve are taken", Check.text(x, 1, steps(12)), 0);
    for (int i = 0; i < 12; i++) e.is("STEP " + i, x.step(0, i, 1), i);
    e.is("thirteen are not", Check.text(x, 1, steps(13)), N);
    e.is("the TAPE stays", x.count(2), steps(13).length());
  }

  private static void promise4WhatCantBeIsNoFault() {
    Edge e = new Edge(check, "4 (What a STEP tells that can't be is no FAULT)");
    for (String text : new String[] {"create 0", "create 999", "add 9,9,9,0,999", "seal 4", "enter 3,4,8", "touch 0,8,3", "evict 99,99,4",
        "load 12,99,99", "map 9,9,999", "leave 999;leave 999", "remove 0;remove 0"}) {
      faultIs(e, SCRIPT, text, N);
      e.is("taken " + text, Check.text(new ClosedRooms(), 1, text), 0);
    }
  }

  private static void promise5Machine() {
    Edge e = new Edge(check, "5 (text, MACHINE)");
    for (int pages = 3; pages <= 10; pages++) {
      ClosedRooms x = new ClosedRooms();
      e.is("how many PAGES", Check.text(x, 0, "pages " + pages), pages);
      e.is("all FREE", x.all(0), (1 << pages) - 1);
      e.is("the last one", x.page(pages - 1, 0), 0);
      e.is("none behind", x.page(pages, 0), H);
      e.is("the TAPE is empty then", x.count(2), 0);
    }
    for (int cores = 1; cores <= 3; cores++) {
      ClosedRooms x = Check.machine("cores " + cores);
      e.is("the last CORE", x.core(cores - 1, 0), 0);
      e.is("none behind", x.core(cores, 0), H);
    }
    for (int i = 0; i < 4; i++) {
      for (int number : new int[] {LEAST[i], MOST[i]}) {
        ClosedRooms x = Check.machine(RULES[i] + " " + number);
        for (int k = 0; k < 4; k++) e.is(RULES[i] + " " + number + ", rule " + k, x.rule(k), k == i ? number : WITHOUT[k]);
      }
    }
  }

  /** All FREE; all that was of another one is gone but SCRIPTS, STATUS. */
  private static void promise5AllOfAnotherIsGone() {
    Edge e = new Edge(check, "5 (text, all that was of another one)");
    Edge.Make full = Edge.after(Edge.script(Edge.WITH_COPY, "create 2", "slots;slots"), x -> x.tell(1, 9), x -> x.enter(0, 0, 0),
        x -> x.touch(0, 2, 0), x -> x.block(4), x -> x.create(3), x -> x.map(1, 0, 7), x -> x.image());
    ClosedRooms x = full.make();
    x.leave(9);
    x.create(9);
    x.create(9);
    e.is("the new one", Check.text(x, 0, "pages 8;cores 3"), 8);
    e.is("as a new object with it", Dump.of(x).equals(Dump.of(Check.machine("pages 8;cores 3"))), true);
    e.is("no ACT can be UNDONE", x.count(4), 0);
    e.is("no IMAGE of this MACHINE", x.back(), N);
    e.is("STATUS stays", Check.status(x), 12000);
    e.is("SCRIPTS stay", x.count(1) * 100 + x.step(0, 0, 1) * 10 + x.step(1, 1, 0), 221);
    x = full.make();
    Check.text(x, 0, "pages 8;cores 3");
    e.is("nothing hidden stays", Dump.whole(x).equals(Dump.whole(Edge.script(Edge.machine("pages 8;cores 3"), "create 2", "slots;slots").make())), true);
    x = Edge.after(full, z -> z.create(1), z -> z.evict(5, 1, 1), z -> z.slots(), z -> z.evict(3, 5, 2)).make();
    Check.text(x, 0, "pages 8;cores 3");
    ClosedRooms y = Edge.script(Edge.machine("pages 8;cores 3"), "create 2", "slots;slots").make();
    for (ClosedRooms one : new ClosedRooms[] {x, y}) {
      for (int i = 0; i < 6; i++) one.slots();
      for (int i = 1; i <= 2; i++) one.create(i);
    }
    e.is("nothing hidden comes up as it is built anew", Dump.whole(x).equals(Dump.whole(y)), true);
    x = full.make();
    x.undo();
    x.undo();
    Check.text(x, 0, "pages 8;cores 3");
    x.slots();
    e.is("one can be UNDONE", x.undo(), 0);
    e.is("no more", x.undo(), N);
  }

  private static void promise5Scripts() {
    Edge e = new Edge(check, "5 (text, SCRIPT)");
    ClosedRooms x = new ClosedRooms();
    for (int i = 0; i < 4; i++) {
      e.is("SCRIPT " + i + " of four", Check.text(x, 1, "create " + (i + 5)), i);
      e.is("the TAPE is empty then", x.count(2), 0);
      e.is("how many", x.count(1), i + 1);
    }
    for (int i = 0; i < 4; i++) e.is("it is as it was told", x.step(i, 0, 1), i + 5);
    Edge.Make four = Edge.script(HOUSE, "slots", "slots", "slots", "leave 1");
    e.same("there are four SCRIPTS", Edge.after(four, y -> Check.put(y, "create 1")), y -> y.text(1), N);
    e.same("there are four SCRIPTS, and a FAULT", Edge.after(four, y -> Check.put(y, "create")), y -> y.text(1), N);
    e.looks("a MACHINE still", Edge.after(four, y -> Check.put(y, "pages 5")), y -> y.text(0), 5);
  }

  private static void promise5Refused() {
    Edge e = new Edge(check, "5 (text)");
    Edge.Make fed = Edge.after(Edge.script(HOUSE, "slots"), x -> Check.put(x, "pages 5"));
    for (int sort : new int[] {2, -1, -2, Check.MIN, Check.MAX, H}) e.same("no such sort " + sort, fed, x -> x.text(sort), N);
    e.same("a FAULT as a SCRIPT: the TAPE stays", fed, x -> x.text(1), N);
    Edge.Make wrong = Edge.after(Edge.script(HOUSE, "slots"), x -> Check.put(x, "slots;leave"));
    e.same("a FAULT as a MACHINE: the TAPE stays", wrong, x -> x.text(0), N);
    e.same("a FAULT behind a STEP that can be", wrong, x -> x.text(1), N);
    e.same("a FAULT: an empty TAPE as a MACHINE", HOUSE, x -> x.text(0), N);
    e.same("a FAULT: an empty TAPE as a SCRIPT", HOUSE, x -> x.text(1), N);
    e.same("a FAULT behind a CLAUSE that can be", Edge.after(HOUSE, x -> Check.put(x, "pages 5;cores 4")), x -> x.text(0), N);
  }

  private static void promise6Rule() {
    Edge e = new Edge(check, "6 (rule)");
    for (int what = 0; what < 4; what++) {
      int one = what;
      e.same("no MACHINE", NEW, x -> x.rule(one), N);
      e.same("what " + what, Edge.machine("key 999;hold 3;cores 1;pages 10"), x -> x.rule(one), new int[] {10, 1, 3, 999}[what]);
      e.same("without, what " + what, Edge.machine("key 7"), x -> x.rule(one), WITHOUT[what]);
    }
    e.same("what 4", HOUSE, x -> x.rule(4), N);
    for (int far : Edge.FAR) e.same("what " + far, HOUSE, x -> x.rule(far), N);
  }

  private static void promise48Step() {
    Edge e = new Edge(check, "48 (step)");
    Edge.Make four = Edge.script(NEW, "leave 1", "leave 2", "leave 3", "add 0,999,2,3,4;slots");
    int[] due = {2, 0, 999, 2, 3, 4};
    for (int what = 0; what < 6; what++) {
      int one = what;
      e.same("the last SCRIPT, what " + what, four, x -> x.step(3, 0, one), due[what]);
      e.same("NONE: there are fewer, what " + what, four, x -> x.step(3, 1, one), what == 0 ? 1 : N);
      e.same("one number, what " + what, four, x -> x.step(0, 0, one), what == 0 ? 6 : what == 1 ? 1 : N);
    }
    e.same("no such SCRIPT: 4", four, x -> x.step(4, 0, 0), H);
    e.same("no such SCRIPT: 1 of one", Edge.script(NEW, "slots"), x -> x.step(1, 0, 0), H);
    e.same("no such STEP: 1 of one", four, x -> x.step(0, 1, 0), H);
    e.same("no such STEP: 2 of two", four, x -> x.step(3, 2, 0), H);
    e.same("STEP 11, the last of twelve", Edge.script(NEW, steps(12)), x -> x.step(0, 11, 1), 11);
    e.same("no such STEP: 12 of twelve", Edge.script(NEW, steps(12)), x -> x.step(0, 12, 0), H);
    e.same("no such what: 6", four, x -> x.step(3, 0, 6), H);
    for (int far : Edge.FAR) {
      e.same("SCRIPT " + far, four, x -> x.step(far, 0, 0), H);
      e.same("STEP " + far, four, x -> x.step(3, far, 0), H);
      e.same("what " + far, four, x -> x.step(3, 0, far), H);
    }
  }
}
