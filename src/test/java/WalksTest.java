import java.util.ArrayList;
import java.util.Arrays;
import java.util.List;

/**
 * Long walks of odd calls, each on objects that are asked no more than 512 times: ACTS answer as the mirror's and leave
 * all as it is there; SCRIPTS do what the same ACTS do; what is refused, and what is only looked at, changes nothing.
 */
public final class WalksTest {
  /** What a walk looks at to choose an ACT that often can be. */
  interface Guide {
    int measure(int room);

    int victim();

    boolean isSlots(int page);

    /** Where the VERSION of a COPY lies: ten times the PAGE and the SLOT; NONE: nowhere, or it is not looked at. */
    default int slotOf(int copy) {
      return Check.N;
    }

    /** Whether a CORE is inside; false where that is not looked at. */
    default boolean isInside(int core) {
      return false;
    }
  }

  private static final class Eye implements Guide {
    private final ClosedRooms x;

    Eye(ClosedRooms x) {
      this.x = x;
    }

    @Override
    public int measure(int room) {
      return Check.room(x, room, 3);
    }

    @Override
    public int victim() {
      return x.victim();
    }

    @Override
    public boolean isSlots(int page) {
      return x.page(page, 0) == 4;
    }
  }

  private static final Check check = new Check("WalksTest");
  private static final int[] FAR = {Integer.MIN_VALUE, Integer.MAX_VALUE, -1, -2, 1000, -1000000, 1 << 30, 12, 999, 1 << 31 | 3};
  private static final int[] OFTEN = {0, 1, 2, 2, 2, 2, 3, 4, 5, 5, 5, 6, 7, 8, 8, 9, 9, 9, 9, 10, 10, 11, 11, 12, 12, 12, 13, 13, 13, 14,
      15, 16, 17, 18, 19};
  /** For walks that begin with ROOMS that are SEALED: what CORES do, and pages that go and come. */
  private static final int[] OFTEN_SEALED = {0, 1, 2, 3, 5, 5, 5, 5, 6, 6, 7, 7, 8, 8, 8, 9, 9, 9, 9, 9, 9, 9, 10, 10, 10, 11, 11, 11, 12, 12, 12,
      13, 13, 13, 13, 14, 15, 15, 16, 17, 18, 19};
  /** ROOM 0 (SIZE 5: two ENTRIES, three PLAIN pages), SLOTS, ROOM 1 (SIZE 3: an ENTRY), both SEALED; PAGE 9 is FREE. */
  private static final int[][] SEALED_ROOMS = {{0, 5}, {1}, {2, 0, 0, 1, 4, 11}, {2, 0, 1, 1, 5, 12}, {2, 0, 2, 0, 7, 50}, {2, 0, 3, 0, 3, 60},
      {2, 0, 4, 0, 7, 999}, {3, 0, 2}, {4, 0}, {0, 3}, {2, 1, 0, 1, 1, 5}, {4, 1}};
  private static final String[] WORDS = {"create", "slots", "add", "extend", "seal", "enter", "leave", "trap", "resume", "touch",
      "block", "track", "evict", "load", "remove", "map"};
  private static final int[] NUMBERS = {1, 0, 5, 2, 1, 3, 1, 1, 3, 3, 1, 1, 3, 3, 1, 3};
  /** How often an ACT of each sort was done as the mirror went along. */
  private static final int[] done = new int[20];
  private static long seed = 20261118;

  public static void main(String[] args) {
    for (int walk = 0; walk < 3000; walk++) mirroredWalk(walk);
    for (int walk = 0; walk < 1000; walk++) scriptedWalk(walk);
    for (int walk = 0; walk < 1500; walk++) wildWalk(walk);
    for (int sort = 0; sort < 20; sort++) check.is("ACTS of sort " + sort + " that were done are many", done[sort] > 100, true);
    check.finish();
  }

  static int any(int bound) {
    seed = seed * 6364136223846793005L + 1442695040888963407L;
    return (int) ((seed >>> 33) % bound);
  }

  private static int some(int bound) {
    return any(40) == 0 ? FAR[any(FAR.length)] : any(bound);
  }

  /** An ACT that often can be: sort and five numbers. */
  private static int[] nextAct(Guide guide, int pages, int cores) {
    return nextAct(guide, pages, cores, OFTEN);
  }

  private static int[] nextAct(Guide guide, int pages, int cores, int[] often) {
    int[] t = new int[6];
    t[0] = often[any(often.length)];
    int room = some(any(3) == 0 ? 4 : 2);
    int page = some(pages);
    int core = some(cores);
    switch (t[0]) {
      case 0: return fill(t, some(9));
      case 1: return t;
      case 2: return fill(t, room, some(4), some(2), 1 + some(7), some(1000));
      case 3: return fill(t, room, some(4));
      case 4: return fill(t, room, any(5) == 0 ? 9 : guide.measure(room));
      case 5:
      case 8: return fill(t, core, room, some(3));
      case 6:
      case 7: return fill(t, coreInside(guide, cores));
      case 9: return fill(t, coreInside(guide, cores), some(5), some(3));
      case 10: return fill(t, page);
      case 11: return fill(t, room);
      case 12: return fill(t, any(3) == 0 ? page : guide.victim(), slotsOf(guide, pages), some(4));
      case 13: return nextLoad(t, guide, pages);
      case 14: return fill(t, page);
      case 15: return fill(t, room, some(4), some(pages + 1) - 1);
      case 17: return fill(t, some(6), some(1000));
      case 19: return fill(t, core, some(1000));
      default: return fill(t, some(any(2) == 0 ? 3 : 12));
    }
  }

  private static int coreInside(Guide guide, int cores) {
    for (int i = 0; i < 4; i++) {
      int core = any(cores);
      if (guide.isInside(core)) return core;
    }
    return some(cores);
  }

  private static int[] nextLoad(int[] t, Guide guide, int pages) {
    int copy = some(4);
    int where = any(3) == 0 ? Check.N : guide.slotOf(copy);
    return where == Check.N ? fill(t, copy, slotsOf(guide, pages), some(4)) : fill(t, copy, where / 10, where % 10);
  }

  private static int slotsOf(Guide guide, int pages) {
    for (int i = 0; i < 4; i++) {
      int p = any(pages);
      if (guide.isSlots(p)) return p;
    }
    return some(pages);
  }

  private static int[] fill(int[] t, int... numbers) {
    System.arraycopy(numbers, 0, t, 1, numbers.length);
    return t;
  }

  private static int call(ClosedRooms x, int[] t) {
    switch (t[0]) {
      case 0: return x.create(t[1]);
      case 1: return x.slots();
      case 2: return x.add(t[1], t[2], t[3], t[4], t[5]);
      case 3: return x.extend(t[1], t[2]);
      case 4: return x.seal(t[1], t[2]);
      case 5: return x.enter(t[1], t[2], t[3]);
      case 6: return x.leave(t[1]);
      case 7: return x.trap(t[1]);
      case 8: return x.resume(t[1], t[2], t[3]);
      case 9: return x.touch(t[1], t[2], t[3]);
      case 10: return x.block(t[1]);
      case 11: return x.track(t[1]);
      case 12: return x.evict(t[1], t[2], t[3]);
      case 13: return x.load(t[1], t[2], t[3]);
      case 14: return x.remove(t[1]);
      case 15: return x.map(t[1], t[2], t[3]);
      case 16: return x.twice(t[1]);
      case 17: return x.change(t[1], t[2]);
      case 18: return x.drop(t[1]);
      default: return x.tell(t[1], t[2]);
    }
  }

  /** An object behind some of these ACTS, the same ones for the same number: ten PAGES, three CORES, up to 170 calls. */
  static ClosedRooms behindActs(long from) {
    seed = from;
    int hold = 1 + any(3);
    ClosedRooms x = Check.machine("pages 10;cores 3;hold " + hold + ";key " + (1 + any(999)));
    Mirror mirror = new Mirror(10, 3, hold);
    boolean sealed = any(4) != 0;
    if (sealed) buildRooms(x, mirror, "from " + from);
    for (int i = any(150); i > 0; i--) {
      int[] t = nextAct(mirror, 10, 3, sealed ? OFTEN_SEALED : OFTEN);
      call(x, t);
      mirror.act(t);
    }
    return x;
  }

  private static void buildRooms(ClosedRooms x, Mirror mirror, String at) {
    for (int[] told : SEALED_ROOMS) {
      int[] t = Arrays.copyOf(told, 6);
      if (t[0] == 4) t[2] = mirror.measure(t[1]);
      sameAnswer(x, mirror, t, at + ", built");
    }
  }

  /** Some ACTS and UNDOS, each answered as the mirror's; then all that can be seen is as it is there. */
  private static void mirroredWalk(int walk) {
    boolean sealed = walk % 3 != 0;
    int pages = walk % 4 == 0 && !sealed ? 3 + any(8) : 10;
    int cores = sealed ? 3 : 1 + any(3);
    int hold = 1 + any(3);
    ClosedRooms x = Check.machine("pages " + pages + ";cores " + cores + ";hold " + hold);
    Mirror mirror = new Mirror(pages, cores, hold);
    int calls = 1 + any(sealed ? 118 : 130);
    if (sealed) buildRooms(x, mirror, "walk " + walk);
    for (int i = 0; i < calls; i++) {
      int[] t = any(20) == 0 ? null : nextAct(mirror, pages, cores, sealed ? OFTEN_SEALED : OFTEN);
      if (!sameAnswer(x, mirror, t, "walk " + walk + ", call " + i)) return;
    }
    for (int i = any(4) == 0 ? any(50) : 0; i > 0; i--) {
      if (!sameAnswer(x, mirror, null, "walk " + walk + ", UNDO at its end")) return;
    }
    String difference = mirror.difference(x);
    if (difference != null) check.is("walk " + walk + " behind " + calls + " calls" + difference, 1, 0);
  }

  private static boolean sameAnswer(ClosedRooms x, Mirror mirror, int[] t, String at) {
    int refused = Arrays.stream(mirror.status).sum();
    int got = t == null ? x.undo() : call(x, t);
    int due = t == null ? mirror.undo() : mirror.act(t);
    check.is(at + (t == null ? " UNDO" : " " + Arrays.toString(t)), got, due);
    if (t != null && Arrays.stream(mirror.status).sum() == refused) done[t[0]]++;
    return got == due;
  }

  /** A SCRIPT of STEPS that often can be: RUN tells, and DO does, what the same ACTS one by one do in the mirror. */
  private static void scriptedWalk(int walk) {
    ClosedRooms x = Check.machine("pages 10;cores 3");
    Mirror mirror = new Mirror(10, 3, 2);
    int[] often = walk % 3 == 0 ? OFTEN : OFTEN_SEALED;
    if (walk % 3 != 0) buildRooms(x, mirror, "scripted walk " + walk);
    for (int i = any(60); i > 0; i--) {
      if (!sameAnswer(x, mirror, nextAct(mirror, 10, 3, often), "scripted walk " + walk)) return;
    }
    List<String> steps = new ArrayList<>();
    int done = 0;
    int failed = -1;
    for (int i = 1 + any(12); i > 0; i--) {
      int[] t = nextStep(mirror, often);
      steps.add(told(t));
      if (failed >= 0) continue;
      if (t[0] == 4) t[2] = mirror.measure(t[1]);
      failed = statusOf(mirror, t);
      if (failed < 0) done++;
    }
    String text = String.join(";", steps);
    String at = "scripted walk " + walk + " " + text;
    check.is(at, Check.text(x, 1, text), 0);
    check.is(at + " RUN, how many", x.run(0, 0), failed < 0 ? -1 : done);
    check.is(at + " RUN, by which", x.run(0, 1), failed);
    check.is(at + " DO", x.perform(0), done);
    String difference = mirror.difference(x);
    if (difference != null) check.is(at + difference, 1, 0);
  }

  private static String told(int[] t) {
    StringBuilder text = new StringBuilder(WORDS[t[0]]);
    for (int k = 1; k <= NUMBERS[t[0]]; k++) text.append(k == 1 ? " " : ",").append(t[k]);
    return text.toString();
  }

  private static int[] nextStep(Guide guide, int[] often) {
    for (int i = 0; i < 100; i++) {
      int[] t = nextAct(guide, 10, 3, often);
      boolean fits = t[0] < 16;
      for (int k = 1; k < 6; k++) fits = fits && (t[0] == 4 && k == 2 || t[k] >= 0 && t[k] <= 999);
      if (fits) return t;
    }
    return new int[] {1, 0, 0, 0, 0, 0};
  }

  /** By which STATUS the mirror refuses it (a STEP is counted by none), or -1. */
  private static int statusOf(Mirror mirror, int[] t) {
    int[] before = mirror.status.clone();
    mirror.act(t);
    for (int i = 0; i < 5; i++) {
      if (mirror.status[i] == before[i]) continue;
      mirror.status[i]--;
      return i;
    }
    return -1;
  }

  /** Any calls at all: what is refused changes nothing but STATUS, what is UNDONE is as it was, looks change nothing. */
  private static void wildWalk(int walk) {
    long from = seed;
    ClosedRooms first = wild(from, walk);
    int[] t = nextAct(new Eye(first), 8, 3);
    for (int k = 1; k < 6; k++) t[k] = any(6) == 0 ? FAR[any(FAR.length)] : t[k];
    long then = seed;
    String before = Dump.whole(wild(from, walk));
    String at = "wild walk " + walk + " " + Arrays.toString(t);
    ClosedRooms x = wild(from, walk);
    int undoable = x.count(4);
    int was = Check.status(x);
    call(x, t);
    if (Check.status(x) == was) {
      check.is(at + " done, the LOG tells it", x.log(0, 0), t[0]);
      check.is(at + " done, it can be UNDONE", x.count(4), Math.min(40, undoable + 1));
      x.undo();
    }
    check.is(at + " refused or UNDONE, all as it was", Dump.whole(x).equals(before), true);
    ClosedRooms y = wild(from, walk);
    seed = then;
    looks(y);
    check.is("wild walk " + walk + " looks change no STATUS", Check.status(y), was);
    check.is("wild walk " + walk + " looks change nothing", Dump.whole(y).equals(before), true);
  }

  /** An object behind wild calls, the same ones for the same numbers. */
  private static ClosedRooms wild(long from, int walk) {
    seed = from;
    ClosedRooms x = walk % 20 == 0 ? new ClosedRooms() : Check.house();
    for (int i = any(35); i > 0; i--) {
      int[] t = nextAct(new Eye(x), 8, 3);
      for (int k = 1; k < 6; k++) t[k] = any(30) == 0 ? FAR[any(FAR.length)] : t[k];
      call(x, t);
      if (any(20) == 0) texts(x);
      if (any(20) == 0) x.image();
      if (any(20) == 0) x.back();
      if (any(10) == 0) x.undo();
    }
    return x;
  }

  private static void texts(ClosedRooms x) {
    String signs = "aeoprst 0123456789,;create slots key 7";
    StringBuilder text = new StringBuilder();
    for (int i = any(30); i > 0; i--) text.append(signs.charAt(any(signs.length())));
    Check.put(x, text.toString());
    if (any(2) == 0) x.end(some(320));
    if (any(4) == 0) Check.text(x, 1, "create 1;slots");
    if (any(30) == 0) Check.text(x, 0, "pages 9");
    x.text(some(3));
  }

  private static void looks(ClosedRooms x) {
    int a = some(12);
    int b = some(12);
    x.fault(a);
    x.rule(a);
    x.page(a, b);
    x.version(a, b);
    Check.room(x, a, b);
    x.mapped(a, b);
    x.core(a, b);
    x.seen(a, b, some(2));
    x.copyOf(a, b);
    x.report(a, b);
    x.proves(a, b, some(1000), some(5));
    x.status(a);
    x.log(a, b);
    x.old();
    x.twins(a);
    x.waits(a);
    x.leaks(a);
    x.lies(a);
    x.victim();
    x.paper(a);
    x.alike(a, b);
    x.spell(a, b);
    x.step(a, b, some(6));
    x.run(a, b);
    x.run(some(4), some(2));
    x.all(a);
    x.count(a);
  }
}
