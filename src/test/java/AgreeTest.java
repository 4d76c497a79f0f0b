import java.util.ArrayList;
import java.util.List;

/**
 * Promises 34, 35, 39 to 47 and 51 behind many walks of ACTS: what is asked apart agrees with what the looks tell one by
 * one, and with what the ACTS do that it is about. Each group of questions has an object of its own.
 */
public final class AgreeTest {
  private static final Check check = new Check("AgreeTest");
  private static final int N = Check.N;
  private static final int PAGES = 10;
  private static final int CORES = 3;
  private static final int ROOMS = 4;
  private static final int COPIES = 12;
  private static int waiting = 0;
  private static int going = 0;

  public static void main(String[] args) {
    for (int walk = 0; walk < 600; walk++) {
      long from = 7919L * walk + 20261119;
      String at = "walk " + walk;
      pagesAgree(at, WalksTest.behindActs(from));
      roomsAgree(at, WalksTest.behindActs(from));
      coresAgree(at, WalksTest.behindActs(from));
      copiesAgree(at, WalksTest.behindActs(from));
      victimGoes(at, from);
      waitsMustLeave(at, from);
      oldAreNotTaken(at, from);
    }
    check.is("some PAGES could go", going > 100, true);
    check.is("some had to wait", waiting > 100, true);
    for (int walk = 0; walk < 600; walk++) paperIsWhatIsBuilt("paper " + walk);
    check.finish();
  }

  // ---- looks and looks ----

  private static void pagesAgree(String at, ClosedRooms x) {
    int free = 0;
    int blocked = 0;
    int empty = 0;
    int[] here = new int[ROOMS];
    for (int p = 0; p < PAGES; p++) {
      int kind = x.page(p, 0);
      int room = x.page(p, 1);
      check.is(at + ", PAGE " + p + " has a ROOM", room != N, kind >= 1 && kind <= 3);
      if (kind == 0) free |= 1 << p;
      if (x.page(p, 4) == 1) blocked |= 1 << p;
      for (int slot = 0; kind == 4 && slot < 4; slot++) empty += x.version(p, slot) == 0 ? 1 : 0;
      if (room != N) here[room]++;
      check.is(at + ", SPELL of PAGE " + p, spelt(x, p), kind == 4 ? "slots " + p : kind == 0 ? "free " + p : "room " + room + " page " + p);
    }
    int there = 0;
    int most = N;
    for (int r = 0; r < ROOMS; r++) {
      if (Check.room(x, r, 0) == Check.NO_SUCH_ELEMENT) continue;
      there |= 1 << r;
      if (most == N || here[r] > here[most]) most = r;
      check.is(at + ", ROOM " + r + " is AWAY", Check.room(x, r, 5) == 1, here[r] == 0);
    }
    int[] due = {free, there, -2, -2, -2, -2, empty, blocked, most};
    for (int what = 0; what < 9; what++) {
      if (due[what] != -2) check.is(at + ", all(" + what + ")", x.all(what), due[what]);
    }
    check.is(at + ", IMAGE", x.image(), Integer.bitCount(free));
  }

  private static String spelt(ClosedRooms x, int page) {
    StringBuilder text = new StringBuilder();
    int length = x.spell(page, N);
    for (int i = 0; i < length; i++) text.append((char) x.spell(page, i));
    check.is("nothing is spelt behind", x.spell(page, length), N);
    return text.toString();
  }

  private static void roomsAgree(String at, ClosedRooms x) {
    int[] rooms = new int[PAGES];
    int[] addresses = new int[PAGES];
    for (int p = 0; p < PAGES; p++) {
      rooms[p] = x.page(p, 1);
      addresses[p] = x.page(p, 2);
    }
    for (int r = 0; r < ROOMS; r++) {
      int here = 0;
      int lies = 0;
      for (int p = 0; p < PAGES; p++) here |= rooms[p] == r && addresses[p] != N ? 1 << addresses[p] : 0;
      for (int a = 0; a < 8; a++) {
        int told = x.mapped(r, a);
        if (told != N && (rooms[told] != r || addresses[told] != a)) lies |= 1 << a;
      }
      boolean there = Check.room(x, r, 0) != Check.NO_SUCH_ELEMENT;
      check.is(at + ", ROOM " + r + ", ADDRESSES here", Check.room(x, r, 7), there ? here : Check.NO_SUCH_ELEMENT);
      check.is(at + ", ROOM " + r + ", here or out, not both", there ? here & Check.room(x, r, 8) : 0, 0);
      check.is(at + ", ROOM " + r + ", LIES", x.lies(r), there ? lies : N);
      for (int other = 0; other < ROOMS; other++) {
        boolean same = there && other != r && Check.room(x, r, 3) == Check.room(x, other, 3);
        check.is(at + ", ALIKE " + r + ", " + other, x.alike(r, other), same);
      }
    }
  }

  private static void coresAgree(String at, ClosedRooms x) {
    int insideAny = 0;
    int taken = 0;
    int[] inside = new int[ROOMS];
    int[] leaks = new int[ROOMS];
    for (int c = 0; c < CORES; c++) {
      int room = x.core(c, 1);
      int entry = x.core(c, 2);
      check.is(at + ", CORE " + c + ", REPORTS", x.report(c, 0) == Check.H, room == N || Check.room(x, 0, 0) == Check.NO_SUCH_ELEMENT);
      if (room == N) continue;
      insideAny |= 1 << c;
      inside[room] |= 1 << c;
      taken |= 1 << entry;
      check.is(at + ", CORE " + c + ", its ENTRY", x.page(entry, 0) * 10 + x.page(entry, 1), 30 + room);
      for (int i = 0; i < x.core(c, 4); i++) {
        check.is(at + ", CORE " + c + ", what it SEES is its ROOM's", x.page(x.seen(c, i, 1), 1), room);
        check.is(at + ", CORE " + c + ", what it SEES is there", x.page(x.seen(c, i, 1), 2), x.seen(c, i, 0));
        leaks[room] |= x.page(x.seen(c, i, 1), 4) << x.seen(c, i, 0);
      }
      check.is(at + ", CORE " + c + ", no more than hold", x.core(c, 4) <= x.rule(2), true);
      reportsAgree(at + ", CORE " + c, x, c, room);
    }
    for (int r = 0; r < ROOMS; r++) {
      boolean there = Check.room(x, r, 0) != Check.NO_SUCH_ELEMENT;
      check.is(at + ", ROOM " + r + ", CORES inside", Check.room(x, r, 6), there ? inside[r] : Check.NO_SUCH_ELEMENT);
      check.is(at + ", ROOM " + r + ", LEAKS", x.leaks(r), there ? leaks[r] : N);
    }
    check.is(at + ", all(2)", x.all(2), insideAny);
    for (int p = 0; p < PAGES; p++) check.is(at + ", PAGE " + p + " is taken", x.page(p, 5) == 1, (taken >> p & 1) == 1);
  }

  /** KEY, the two MEASURES and REGISTER; another CORE takes a REPORT if it is inside the ROOM that it is for. */
  private static void reportsAgree(String at, ClosedRooms x, int core, int room) {
    int own = x.rule(3) * 31 + Check.room(x, room, 3);
    for (int r = 0; r < ROOMS; r++) {
      if (Check.room(x, r, 0) == Check.NO_SUCH_ELEMENT) continue;
      int report = x.report(core, r);
      check.is(at + ", REPORT for " + r, report, (own * 31 + Check.room(x, r, 3)) * 31 + x.core(core, 0));
      for (int c = 0; c < CORES; c++) {
        if (x.core(c, 1) == r) check.is(at + ", CORE " + c + " takes it", x.proves(c, room, x.core(core, 0), report), true);
        else if (x.core(c, 1) == N) check.is(at + ", CORE " + c + ", outside, does not", x.proves(c, room, x.core(core, 0), report), false);
      }
    }
  }

  private static void copiesAgree(String at, ClosedRooms x) {
    int[] versions = new int[COPIES];
    int[] kept = new int[41];
    int slots = 0;
    for (int p = 0; p < PAGES; p++) {
      for (int slot = 0; slot < 4; slot++) {
        if (x.version(p, slot) > 0) kept[slots++] = x.version(p, slot);
      }
    }
    int lying = 0;
    int old = 0;
    for (int c = 0; c < COPIES; c++) {
      versions[c] = x.copyOf(c, 4);
      if (versions[c] == Check.H) continue;
      lying |= 1 << c;
      boolean there = false;
      for (int r = 0; r < ROOMS; r++) there |= Check.room(x, r, 0) == x.copyOf(c, 0);
      boolean held = false;
      for (int i = 0; i < slots; i++) held |= kept[i] == versions[c];
      if (!there || !held || x.copyOf(c, 5) == 1) old |= 1 << c;
      check.is(at + ", COPY " + c + ", VERSION given", versions[c] >= 1 && versions[c] <= x.all(4), true);
      check.is(at + ", COPY " + c + ", SERIAL given", x.copyOf(c, 0) >= 1 && x.copyOf(c, 0) <= x.all(5), true);
    }
    check.is(at + ", all(3)", x.all(3), lying);
    check.is(at + ", OLD", x.old(), old);
    for (int c = 0; c < COPIES; c++) {
      int twins = 0;
      for (int other = 0; other < COPIES; other++) twins |= other != c && versions[other] == versions[c] ? 1 << other : 0;
      check.is(at + ", TWINS of " + c, x.twins(c), versions[c] == Check.H ? N : twins);
    }
  }

  // ---- looks and ACTS ----

  /** A PAGE and a SLOT, ten times the one and the other, that is empty; made, if there is none; with a place for a COPY. */
  private static int emptySlot(ClosedRooms x) {
    if (x.all(3) == 4095) x.drop(11);
    for (int p = 0; p < PAGES; p++) {
      for (int slot = 0; slot < 4; slot++) {
        if (x.version(p, slot) == 0) return 10 * p + slot;
      }
    }
    int made = x.slots();
    return made == N ? N : 10 * made;
  }

  /** VICTIM is the first, PLAIN ahead of ENTRY ahead of ROOT, whose EVICTION can be. */
  private static void victimGoes(String at, long from) {
    ClosedRooms x = WalksTest.behindActs(from);
    int due = N;
    for (int p = PAGES - 1; p >= 0; p--) {
      ClosedRooms y = WalksTest.behindActs(from);
      int empty = emptySlot(y);
      if (empty == N) return;
      int kind = y.page(p, 0);
      if (y.evict(p, empty / 10, empty % 10) == N) continue;
      going++;
      if (due == N || rank(kind) <= rank(x.page(due, 0))) due = p;
    }
    check.is(at + ", VICTIM", x.victim(), due);
  }

  private static int rank(int kind) {
    return kind == 2 ? 0 : kind == 3 ? 1 : 2;
  }

  /** Have those that WAITS tells left, the page can be EVICTED, in a later EPOCH; has one of them not, it can't. */
  private static void waitsMustLeave(String at, long from) {
    for (int p = 0; p < PAGES; p++) {
      ClosedRooms x = WalksTest.behindActs(from);
      int kind = x.page(p, 0);
      int waits = x.waits(p);
      check.is(at + ", PAGE " + p + " is PLAIN or an ENTRY", waits != N, kind == 2 || kind == 3);
      if (waits == N) continue;
      check.is(at + ", PAGE " + p + ", they are inside its ROOM", waits & ~Check.room(x, x.page(p, 1), 6), 0);
      int canGo = goesWithout(WalksTest.behindActs(from), p, waits);
      if (canGo == N) return;
      check.is(at + ", PAGE " + p + ", those of WAITS have left", canGo, 1);
      for (int c = 0; c < CORES; c++) {
        if ((waits >> c & 1) == 0) continue;
        waiting++;
        check.is(at + ", PAGE " + p + ", CORE " + c + " has not", goesWithout(WalksTest.behindActs(from), p, waits & ~(1 << c)), 0);
      }
    }
  }

  /** BLOCKED, these CORES out, TRACKED where that can be: whether it goes then (1, 0); NONE: no SLOT for it. */
  private static int goesWithout(ClosedRooms x, int page, int cores) {
    int empty = emptySlot(x);
    if (empty == N) return N;
    if (x.page(page, 4) == 0) x.block(page);
    for (int c = 0; c < CORES; c++) {
      if ((cores >> c & 1) == 1) x.leave(c);
    }
    if (x.evict(page, empty / 10, empty % 10) != N) return 1;
    x.track(x.page(page, 1));
    return x.evict(page, empty / 10, empty % 10) != N ? 1 : 0;
  }

  /** A COPY that is OLD is taken by no SLOT; one that is not is taken by one, if its ROOM is not AWAY and a PAGE is FREE. */
  private static void oldAreNotTaken(String at, long from) {
    ClosedRooms x = WalksTest.behindActs(from);
    int old = x.old();
    for (int c = 0; c < COPIES; c++) {
      if (x.copyOf(c, 0) == Check.H || x.all(0) == 0) continue;
      boolean away = false;
      for (int r = 0; r < ROOMS; r++) away |= Check.room(x, r, 0) == x.copyOf(c, 0) && Check.room(x, r, 5) == 1;
      ClosedRooms y = WalksTest.behindActs(from);
      boolean taken = false;
      for (int p = 0; p < PAGES && !taken; p++) {
        if (y.page(p, 0) != 4) continue;
        for (int slot = 0; slot < 4 && !taken; slot++) taken = y.load(c, p, slot) != N;
      }
      boolean due = (old >> c & 1) == 0 && (!away || x.copyOf(c, 2) == 1);
      check.is(at + ", COPY " + c + " is taken by a SLOT", taken, due);
    }
  }

  // ---- PAPER ----

  private static final String[] OTHERS = {"slots", "seal 0", "enter 0,0,0", "create 5", "track 3", "map 0,0,0", "remove 2", "block 1"};

  /** What a SCRIPT would build, told by PAPER, is what is built by its create, add, extend, whatever stands between. */
  private static void paperIsWhatIsBuilt(String at) {
    List<String> steps = new ArrayList<>();
    for (int i = WalksTest.any(3); i > 0; i--) steps.add(WalksTest.any(2) == 0 ? "slots" : "add 0,1,0,7,500");
    int size = 1 + WalksTest.any(8);
    steps.add("create " + size);
    ClosedRooms x = Check.machine("pages 10");
    x.create(size);
    while (steps.size() < 12) {
      int address = WalksTest.any(size);
      boolean here = (Check.room(x, 0, 7) >> address & 1) == 1;
      int sort = WalksTest.any(4);
      if (sort == 0) steps.add(OTHERS[WalksTest.any(OTHERS.length)]);
      else if (sort == 1 && here) extendBoth(x, address, steps);
      else addBoth(x, address, here, steps);
    }
    ClosedRooms y = new ClosedRooms();
    check.is(at + " " + steps, Check.text(y, 1, String.join(";", steps)), 0);
    check.is(at + " " + steps, y.paper(0), Check.room(x, 0, 3));
  }

  private static void extendBoth(ClosedRooms x, int address, List<String> steps) {
    x.extend(0, address);
    steps.add("extend " + WalksTest.any(9) + "," + address);
  }

  private static void addBoth(ClosedRooms x, int address, boolean here, List<String> steps) {
    if (here) x.remove(x.mapped(0, address));
    int kind = WalksTest.any(2);
    int rights = 1 + WalksTest.any(7);
    int value = WalksTest.any(1000);
    x.add(0, address, kind, rights, value);
    steps.add("add " + WalksTest.any(9) + "," + address + "," + kind + "," + rights + "," + value);
  }
}
