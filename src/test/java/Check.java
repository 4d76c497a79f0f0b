import java.util.NoSuchElementException;

/** Counts and prints the answers that are not the ones that are due, and puts texts on a TAPE. */
final class Check {
  /** What room(..) counts as where it throws as the document asks. */
  static final int NO_SUCH_ELEMENT = -2000000;
  static final int N = ClosedRooms.NONE;
  static final int H = ClosedRooms.HIDDEN;
  static final int MIN = Integer.MIN_VALUE;
  static final int MAX = Integer.MAX_VALUE;

  private final String name;
  private int wrong = 0;
  private int asked = 0;

  Check(String name) {
    this.name = name;
  }

  void is(String what, long got, long due) {
    asked++;
    if (got != due) {
      wrong++;
      System.out.println(name + ": " + what + " answered " + got + ", due is " + due);
    }
  }

  void is(String what, String got, String due) {
    asked++;
    if (!got.equals(due)) {
      wrong++;
      System.out.println(name + ": " + what + " is '" + got + "', due is '" + due + "'");
    }
  }

  void is(String what, boolean got, boolean due) {
    is(what, got ? 1 : 0, due ? 1 : 0);
  }

  void finish() {
    System.out.println(name + ": " + asked + " asked, " + wrong + " wrong");
    if (wrong != 0) System.exit(1);
  }

  /** Feeds these bytes, twenty a call, behind what the TAPE has. */
  static int put(ClosedRooms x, String text) {
    int answer = x.feed(0, 0, 0, 0, 0);
    for (int from = 0; from < text.length(); from += 20) {
      int[] numbers = new int[5];
      for (int i = 0; i < 20 && from + i < text.length(); i++) {
        numbers[i / 4] |= (text.charAt(from + i) & 255) << (24 - 8 * (i % 4));
      }
      answer = x.feed(numbers[0], numbers[1], numbers[2], numbers[3], numbers[4]);
    }
    return answer;
  }

  static int fault(ClosedRooms x, int sort, String text) {
    x.end(0);
    put(x, text);
    return x.fault(sort);
  }

  static int text(ClosedRooms x, int sort, String text) {
    x.end(0);
    put(x, text);
    return x.text(sort);
  }

  static ClosedRooms machine(String text) {
    ClosedRooms x = new ClosedRooms();
    text(x, 0, text);
    return x;
  }

  static int room(ClosedRooms x, int room, int what) {
    try {
      return x.room(room, what);
    } catch (NoSuchElementException e) {
      return NO_SUCH_ELEMENT;
    }
  }

  /** All five of STATUS as digits, the first one highest. */
  static int status(ClosedRooms x) {
    int sum = 0;
    for (int i = 0; i < 5; i++) sum = sum * 10 + x.status(i);
    return sum;
  }

  /** 8 PAGES, 3 CORES, hold 2: ROOM 0 (SIZE 4, SERIAL 1) with PAGE 0 ROOT, 1 SLOTS, 2 ENTRY, 3 and 4 PLAIN; SEALED. */
  static ClosedRooms house() {
    ClosedRooms x = machine("pages 8;cores 3;hold 2;key 7");
    x.create(4);
    x.slots();
    x.add(0, 0, 1, 4, 11);
    x.add(0, 1, 0, 3, 50);
    x.add(0, 2, 0, 7, 60);
    x.seal(0, room(x, 0, 3));
    return x;
  }

  /** The house, its PLAIN page of ADDRESS 1 out: COPY 0, VERSION 1 in SLOT 0; EPOCH 1. */
  static ClosedRooms houseWithCopy() {
    ClosedRooms x = house();
    x.block(3);
    x.track(0);
    x.evict(3, 1, 0);
    return x;
  }
}
