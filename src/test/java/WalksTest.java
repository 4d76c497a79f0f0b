/** Long walks of odd calls: each answers as the mirror does, what is refused changes nothing, what is UNDONE is as it was. */
public final class WalksTest {
  private static final Check check = new Check("WalksTest");
  private static final int[] FAR = {Integer.MIN_VALUE, Integer.MAX_VALUE, -1, -2, 1000, -1000000, 1 << 30, 12, 999, 1 << 31 | 3};
  private static long seed = 20261118;

  public static void main(String[] args) {
    for (int walk = 0; walk < 400; walk++) mirroredWalk(walk);
    for (int walk = 0; walk < 60; walk++) scriptedWalk(walk);
    for (int walk = 0; walk < 300; walk++) wildWalk(walk);
    check.finish();
  }

  private static int any(int bound) {
    seed = seed * 6364136223846793005L + 1442695040888963407L;
    return (int) ((seed >>> 33) % bound);
  }

  private static int some(int bound) {
    return any(40) == 0 ? FAR[any(FAR.length)] : any(bound);
  }

  /** An ACT that often can be: sort and five numbers. */
  private static int[] nextAct(ClosedRooms x, int pages, int cores) {
    int[] often = {0, 1, 2, 2, 2, 2, 3, 4, 5, 5, 5, 6, 7, 8, 8, 9, 9, 9, 9, 10, 10, 11, 11, 12, 12, 12, 13, 13, 13, 14, 15, 16, 17, 18, 19};
    int[] t = new int[6];
    t[0] = often[any(often.length)];
    int room = some(any(3) == 0 ? 4 : 2);
    int page = some(pages);
    int core = some(cores);
    switch (t[0]) {
      case 0: return fill(t, some(9));
      case 1: return t;
      case 2: return fill(t, room, some(4), some(2), 1 + some(7), some(1000));
      case 3: return fill(t, room, some(4));
      case 4: return fill(t, room, any(5) == 0 ? 9 : Check.room(x, room, 3));
      case 5:
      case 8: return fill(t, core, room, some(3));
      case 6:
      case 7: return fill(t, core);
      case 9: return fill(t, core, some(4), some(3));
      case 10: return fill(t, page);
      case 11: return fill(t, room);
      case 12: return fill(t, any(3) == 0 ? page : x.victim(), slotsOf(x, pages), some(4));
      case 13: return fill(t, some(4), slotsOf(x, pages), some(4));
      case 14: return fill(t, page);
      case 15: return fill(t, room, some(4), some(pages + 1) - 1);
      case 17: return fill(t, some(6), some(1000));
      case 19: return fill(t, core, some(1000));
      default: return fill(t, some(any(2) == 0 ? 3 : 12));
    }
  }

  private static int slotsOf(ClosedRooms x, int pages) {
    for (int i = 0; i < pages; i++) {
      int p = any(pages);
      if (x.page(p, 0) == 4) return p;
    }
    return some(pages);
  }

  private static int[] fill(int[] t, int... numbers) {
    System.arraycopy(numbers, 0, t, 1, numbers.length);
    return t;
  }

  private static int call(ClosedRooms x, int[] t) {
    switch (t[0]) {
      case 0: return x.create(t[1]);
      case 1: return x.slots();
      case 2: return x.add(t[1], t[2], t[3], t[4], t[5]);
      case 3: return x.extend(t[1], t[2]);
      case 4: return x.seal(t[1], t[2]);
      case 5: return x.enter(t[1], t[2], t[3]);
      case 6: return x.leave(t[1]);
      case 7: return x.trap(t[1]);
      case 8: return x.resume(t[1], t[2], t[3]);
      case 9: return x.touch(t[1], t[2], t[3]);
      case 10: return x.block(t[1]);
      case 11: return x.track(t[1]);
      case 12: return x.evict(t[1], t[2], t[3]);
      case 13: return x.load(t[1], t[2], t[3]);
      case 14: return x.remove(t[1]);
      case 15: return x.map(t[1], t[2], t[3]);
      case 16: return x.twice(t[1]);
      case 17: return x.change(t[1], t[2]);
      case 18: return x.drop(t[1]);
      default: return x.tell(t[1], t[2]);
    }
  }

  private static String machineOf(int pages, int cores, int hold) {
    return "pages " + pages + ";cores " + cores + ";hold " + hold;
  }

  private static void mirroredWalk(int walk) {
    int pages = walk % 4 == 0 ? 3 + any(8) : 10;
    int cores = 1 + any(3);
    int hold = 1 + any(3);
    ClosedRooms x = Check.machine(machineOf(pages, cores, hold));
    Mirror mirror = new Mirror(pages, cores, hold);
    for (int i = 0; i < 200; i++) {
      String told;
      int got;
      int due;
      if (any(20) == 0) {
        told = "undo";
        got = x.undo();
        due = mirror.undo();
      } else {
        int[] t = nextAct(x, pages, cores);
        told = java.util.Arrays.toString(t);
        got = call(x, t);
        due = mirror.act(t);
      }
      String difference = mirror.difference(x);
      check.is("walk " + walk + ", call " + i + " " + told, got, due);
      if (difference != null) check.is("walk " + walk + ", call " + i + " " + told + difference, 1, 0);
      if (got != due || difference != null) return;
    }
  }

  private static final String[] WORDS = {"create", "slots", "add", "extend", "seal", "enter", "leave", "trap", "resume", "touch",
      "block", "track", "evict", "load", "remove", "map"};
  private static final int[] NUMBERS = {1, 0, 5, 2, 1, 3, 1, 1, 3, 3, 1, 1, 3, 3, 1, 3};

  /** SCRIPTS of STEPS as they come: RUN tells what DO does, and DO does what the same ACTS one by one do. */
  private static void scriptedWalk(int walk) {
    ClosedRooms x = Check.machine("pages 10;cores 3");
    ClosedRooms y = Check.machine("pages 10;cores 3");
    for (int script = 0; script < 4; script++) {
      int[][] steps = new int[1 + any(12)][];
      StringBuilder text = new StringBuilder();
      for (int i = 0; i < steps.length; i++) {
        steps[i] = nextStep(x);
        text.append(i == 0 ? "" : ";").append(WORDS[steps[i][0]]);
        for (int k = 1; k <= NUMBERS[steps[i][0]]; k++) text.append(k == 1 ? " " : ",").append(steps[i][k]);
      }
      check.is("walk " + walk + " " + text, Check.text(x, 1, text.toString()), script);
      for (int again = 0; again < 6; again++) {
        int first = x.run(script, 0);
        int by = x.run(script, 1);
        int was = Check.status(x);
        int done = x.perform(script);
        check.is("walk " + walk + " RUN of " + text, first, done == steps.length ? -1 : done);
        check.is("walk " + walk + " no STATUS " + text, Check.status(x), was);
        int failed = -1;
        for (int i = 0; i < steps.length && failed < 0; i++) {
          int[] t = steps[i].clone();
          if (t[0] == 4) t[2] = Check.room(y, t[1], 3);
          failed = statusOf(y, t);
        }
        check.is("walk " + walk + " by which " + text, by, failed);
        check.is("walk " + walk + " as one by one " + text, Dump.of(x).equals(Dump.of(y)), true);
        check.is("walk " + walk + " count(4) " + text, x.count(4), y.count(4));
      }
    }
  }

  private static int[] nextStep(ClosedRooms x) {
    for (int i = 0; i < 100; i++) {
      int[] t = nextAct(x, 10, 3);
      boolean fits = t[0] < 16;
      for (int k = 1; k < 6; k++) fits = fits && (t[0] == 4 && k == 2 || t[k] >= 0 && t[k] <= 999);
      if (fits) return t;
    }
    return new int[] {1, 0, 0, 0, 0, 0};
  }

  /** The STATUS that the call adds to, or -1. */
  private static int statusOf(ClosedRooms x, int[] t) {
    int[] before = new int[5];
    for (int i = 0; i < 5; i++) before[i] = x.status(i);
    call(x, t);
    for (int i = 0; i < 5; i++) {
      if (x.status(i) != before[i]) return i;
    }
    return -1;
  }

  /** Any calls at all: none throws, what is no ACT changes nothing, what is refused changes nothing but STATUS. */
  private static void wildWalk(int walk) {
    ClosedRooms x = walk % 10 == 0 ? new ClosedRooms() : Check.house();
    for (int i = 0; i < 150; i++) {
      String before = Dump.of(x);
      String rest = Dump.rest(x);
      int was = Check.status(x);
      int[] t = nextAct(x, 10, 3);
      for (int k = 1; k < 6; k++) t[k] = any(6) == 0 ? FAR[any(FAR.length)] : t[k];
      int undoable = x.count(4);
      call(x, t);
      String at = "wild walk " + walk + ", call " + i + " " + java.util.Arrays.toString(t);
      if (Check.status(x) != was) {
        check.is(at + " refused, all as it was", Dump.of(x).equals(before) && Dump.rest(x).equals(rest), true);
      } else {
        check.is(at + " done, the LOG tells it", x.log(0, 0), t[0]);
        check.is(at + " done, it can be UNDONE", x.count(4), Math.min(40, undoable + 1));
        if (any(4) == 0) {
          x.undo();
          check.is(at + " UNDONE, all as it was", Dump.of(x).equals(before), true);
          call(x, t);
        }
      }
      if (any(30) == 0) texts(x);
      if (any(30) == 0) x.image();
      if (any(50) == 0) x.back();
      looks(x, at);
    }
  }

  private static void texts(ClosedRooms x) {
    String signs = "aeoprst 0123456789,;create slots key 7";
    StringBuilder text = new StringBuilder();
    for (int i = any(30); i > 0; i--) text.append(signs.charAt(any(signs.length())));
    Check.put(x, text.toString());
    if (any(2) == 0) x.end(some(320));
    if (any(4) == 0) Check.text(x, 1, "create 1;slots");
    if (any(20) == 0) Check.text(x, 0, "pages 9");
    x.text(some(3));
  }

  private static void looks(ClosedRooms x, String at) {
    String before = Dump.of(x);
    int was = Check.status(x);
    int a = some(12);
    int b = some(12);
    x.fault(a);
    x.rule(a);
    x.page(a, b);
    x.version(a, b);
    Check.room(x, a, b);
    x.mapped(a, b);
    x.core(a, b);
    x.seen(a, b, some(2));
    x.copyOf(a, b);
    x.report(a, b);
    x.proves(a, b, some(1000), some(5));
    x.status(a);
    x.log(a, b);
    x.twins(a);
    x.waits(a);
    x.leaks(a);
    x.lies(a);
    x.paper(a);
    x.alike(a, b);
    x.spell(a, b);
    x.step(a, b, some(6));
    x.run(a, b);
    x.all(a);
    x.count(a);
    check.is(at + " looks change nothing", Dump.of(x).equals(before) && Check.status(x) == was, true);
  }
}
