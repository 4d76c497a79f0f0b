import java.util.ArrayList;
import java.util.Arrays;
import java.util.LinkedHashMap;
import java.util.List;
import java.util.Map;
import java.util.TreeMap;

/**
 * The ACTS told once more, from the document and in another way: pages know what they are by objects and maps, and an
 * UNDO plays the whole story again from its beginning. Slow, for tests only.
 */
final class Mirror implements WalksTest.Guide {
  /** A page of a room, wherever it is. */
  private static final class Leaf {
    final House house;
    final int address;
    final boolean entry;
    final int rights;
    int value;
    Integer blockedIn = null;
    String state = "idle";

    Leaf(House house, int address, boolean entry, int rights, int value) {
      this.house = house;
      this.address = address;
      this.entry = entry;
      this.rights = rights;
      this.value = value;
    }
  }

  private static final class House {
    final int serial;
    final int size;
    boolean isSealed = false;
    int measure;
    int epoch = 0;
    boolean rootHere = true;
    final Map<Integer, Boolean> known = new TreeMap<>();
    final Map<Integer, Integer> map = new TreeMap<>();

    House(int serial, int size) {
      this.serial = serial;
      this.size = size;
      measure = 7 + size;
    }
  }

  private static final class Letter {
    final int serial;
    final int address;
    final boolean root;
    final boolean entry;
    final int rights;
    final int value;
    final String state;
    final int version;
    final boolean touched;

    Letter(int serial, Leaf leaf, int version) {
      this.serial = serial;
      root = leaf == null;
      address = root ? -1 : leaf.address;
      entry = !root && leaf.entry;
      rights = root ? 0 : leaf.rights;
      value = root ? 0 : leaf.value;
      state = root ? "idle" : leaf.state;
      this.version = version;
      touched = false;
    }

    Letter(Letter other, int value) {
      serial = other.serial;
      address = other.address;
      root = other.root;
      entry = other.entry;
      rights = other.rights;
      this.value = value;
      state = other.state;
      version = other.version;
      touched = true;
    }
  }

  private static final class Runner {
    int register = 0;
    Leaf by = null;
    int since = -1;
    final List<Leaf> sees = new ArrayList<>();
  }

  private static final class No extends RuntimeException {
    private static final long serialVersionUID = 1;
    final int status;

    No(int status) {
      this.status = status;
    }
  }

  private final int pages;
  private final int cores;
  private final int hold;
  /** A PAGE holds a House (its ROOT), a Leaf, a TreeMap (SLOTS) or nothing. */
  private Object[] frames;
  private House[] houses;
  private Runner[] runners;
  private Letter[] letters;
  private int versions;
  private int serials;
  private List<int[]> log = new ArrayList<>();
  private List<int[]> story = new ArrayList<>();
  private int undoable = 0;
  final int[] status = new int[5];

  Mirror(int pages, int cores, int hold) {
    this.pages = pages;
    this.cores = cores;
    this.hold = hold;
    begin();
  }

  private void begin() {
    frames = new Object[pages];
    houses = new House[4];
    runners = new Runner[cores];
    for (int i = 0; i < cores; i++) runners[i] = new Runner();
    letters = new Letter[12];
    versions = 0;
    serials = 0;
    log.clear();
  }

  /** sort and five numbers; the answer, NONE and HIDDEN too. */
  int act(int... told) {
    try {
      int answer = done(told);
      log.add(new int[] {told[0], told[0] == 1 ? -1 : told[1], answer});
      story.add(told.clone());
      undoable = Math.min(40, undoable + 1);
      return answer;
    } catch (No no) {
      status[no.status]++;
      return told[0] == 3 || told[0] == 15 ? -1000000 : -1;
    }
  }

  int undo() {
    if (undoable == 0) return -1;
    undoable--;
    List<int[]> rest = new ArrayList<>(story.subList(0, story.size() - 1));
    begin();
    story = rest;
    for (int[] told : rest) log.add(new int[] {told[0], told[0] == 1 ? -1 : told[1], done(told)});
    return undoable;
  }

  private static int need(int status, boolean... all) {
    for (boolean one : all) {
      if (!one) throw new No(status);
    }
    return 0;
  }

  private static boolean in(int number, int from, int to) {
    return number >= from && number <= to;
  }

  private int free() {
    return Arrays.asList(frames).indexOf(null);
  }

  private House house(int room) {
    return in(room, 0, 3) ? houses[room] : null;
  }

  private Object frame(int page) {
    return in(page, 0, pages - 1) ? frames[page] : null;
  }

  private Leaf leaf(int page) {
    return frame(page) instanceof Leaf ? (Leaf) frame(page) : null;
  }

  @SuppressWarnings("unchecked")
  private TreeMap<Integer, Integer> drawers(int page) {
    return frame(page) instanceof TreeMap ? (TreeMap<Integer, Integer>) frame(page) : null;
  }

  private int pageOf(Object held) {
    return Arrays.asList(frames).indexOf(held);
  }

  private List<Runner> inside(House house) {
    List<Runner> all = new ArrayList<>();
    for (Runner one : runners) {
      if (one.by != null && one.by.house == house) all.add(one);
    }
    return all;
  }

  private int leavesHere(House house) {
    int here = 0;
    for (Object held : frames) {
      if (held instanceof Leaf && ((Leaf) held).house == house) here++;
    }
    return here;
  }

  private int done(int[] t) {
    int a = t[1];
    int b = t[2];
    int c = t[3];
    int d = t[4];
    int e = t[5];
    switch (t[0]) {
      case 0: return create(a);
      case 1: return slots();
      case 2: return add(a, b, c, d, e);
      case 3: return extend(a, b);
      case 4: return seal(a, b);
      case 5: return enter(a, b, c, "idle");
      case 6: return leave(a, false);
      case 7: return leave(a, true);
      case 8: return enter(a, b, c, "haste");
      case 9: return touch(a, b, c);
      case 10: return block(a);
      case 11: return track(a);
      case 12: return evict(a, b, c);
      case 13: return load(a, b, c);
      case 14: return remove(a);
      case 15: return map(a, b, c);
      default: return byHand(t[0], a, b);
    }
  }

  private int create(int size) {
    need(1, in(size, 1, 8));
    int room = Arrays.asList(houses).indexOf(null);
    need(3, room >= 0, free() >= 0);
    serials++;
    houses[room] = new House(serials, size);
    frames[free()] = houses[room];
    return room;
  }

  private int slots() {
    int page = free();
    need(3, page >= 0);
    frames[page] = new TreeMap<Integer, Integer>();
    return page;
  }

  private int add(int room, int address, int kind, int rights, int value) {
    House h = house(room);
    need(0, h != null);
    need(1, in(address, 0, h.size - 1), in(kind, 0, 1), in(rights, 1, 7), in(value, 0, 999));
    need(2, !h.isSealed, h.rootHere, !h.known.containsKey(address));
    int page = free();
    need(3, page >= 0);
    frames[page] = new Leaf(h, address, kind == 1, rights, value);
    h.known.put(address, true);
    h.map.put(address, page);
    h.measure = h.measure * 31 + address * 64 + kind * 8 + rights;
    return page;
  }

  private int extend(int room, int address) {
    House h = house(room);
    need(0, h != null);
    need(1, in(address, 0, h.size - 1));
    need(2, !h.isSealed, h.rootHere, Boolean.TRUE.equals(h.known.get(address)));
    for (Object held : frames) {
      if (held instanceof Leaf && ((Leaf) held).house == h && ((Leaf) held).address == address) {
        h.measure = h.measure * 31 + ((Leaf) held).value + 1000;
      }
    }
    return h.measure;
  }

  private int seal(int room, int measure) {
    House h = house(room);
    need(0, h != null);
    need(2, !h.isSealed, h.rootHere);
    need(4, h.measure == measure);
    h.isSealed = true;
    return h.serial;
  }

  private int enter(int core, int room, int address, String state) {
    House h = house(room);
    need(0, in(core, 0, cores - 1), h != null);
    need(1, in(address, 0, h.size - 1));
    Runner r = runners[core];
    need(2, r.by == null, h.isSealed, h.rootHere);
    Leaf l = leaf(h.map.getOrDefault(address, -1));
    need(4, l != null && l.house == h && l.address == address);
    need(2, l.entry && l.state.equals(state));
    need(4, l.blockedIn == null);
    l.state = "taken";
    r.by = l;
    r.since = h.epoch;
    if (state.equals("idle")) return pageOf(l);
    r.register = l.value;
    l.value = 0;
    return r.register;
  }

  private int leave(int core, boolean haste) {
    need(0, in(core, 0, cores - 1));
    Runner r = runners[core];
    need(2, r.by != null);
    Leaf l = r.by;
    r.by = null;
    r.since = -1;
    r.sees.clear();
    l.state = haste ? "haste" : "idle";
    if (!haste) return r.register;
    l.value = r.register;
    r.register = 0;
    return pageOf(l);
  }

  private int touch(int core, int address, int how) {
    need(0, in(core, 0, cores - 1));
    need(1, in(address, 0, 7), in(how, 0, 2));
    Runner r = runners[core];
    need(2, r.by != null && address < r.by.house.size);
    Leaf l = null;
    for (Leaf one : r.sees) {
      if (one.address == address) l = one;
    }
    boolean sees = l != null;
    if (!sees) {
      l = leaf(r.by.house.map.getOrDefault(address, -1));
      need(4, l != null && l.house == r.by.house && l.address == address && l.blockedIn == null && !l.entry);
    }
    need(4, (l.rights / (1 << how)) % 2 == 1);
    if (!sees) {
      if (r.sees.size() == hold) r.sees.remove(0);
      r.sees.add(l);
    }
    if (how == 1) l.value = r.register;
    if (how == 0) r.register = l.value;
    if (how == 2) r.register = (r.register * 7 + l.value) % 1000;
    return r.register;
  }

  private int block(int page) {
    need(0, frame(page) != null);
    Leaf l = leaf(page);
    need(2, l != null && l.blockedIn == null && l.house.rootHere);
    l.blockedIn = l.house.epoch;
    return l.house.epoch;
  }

  private int track(int room) {
    House h = house(room);
    need(0, h != null);
    need(2, h.rootHere);
    for (Runner r : inside(h)) need(2, r.since == h.epoch);
    return ++h.epoch;
  }

  private boolean canGo(Object held) {
    if (held instanceof House) return leavesHere((House) held) == 0;
    if (!(held instanceof Leaf)) return false;
    Leaf l = (Leaf) held;
    if (l.blockedIn == null || l.blockedIn >= l.house.epoch || l.state.equals("taken")) return false;
    for (Runner r : inside(l.house)) {
      if (r.since <= l.blockedIn) return false;
    }
    return true;
  }

  private int evict(int page, int slots, int slot) {
    need(0, frame(page) != null, drawers(slots) != null);
    need(1, in(slot, 0, 3));
    need(2, canGo(frame(page)), !drawers(slots).containsKey(slot));
    int place = Arrays.asList(letters).indexOf(null);
    need(3, place >= 0);
    versions++;
    Leaf l = leaf(page);
    House h = l == null ? (House) frame(page) : l.house;
    letters[place] = new Letter(h.serial, l, versions);
    if (l == null) h.rootHere = false;
    else h.known.put(l.address, false);
    drawers(slots).put(slot, versions);
    frames[page] = null;
    return place;
  }

  private int load(int copy, int slots, int slot) {
    need(0, in(copy, 0, 11) && letters[copy] != null, drawers(slots) != null);
    need(1, in(slot, 0, 3));
    int page = free();
    need(3, page >= 0);
    Letter t = letters[copy];
    House h = null;
    for (House one : houses) {
      if (one != null && one.serial == t.serial) h = one;
    }
    need(4, !t.touched, drawers(slots).getOrDefault(slot, 0) == t.version, h != null && (t.root || h.rootHere));
    drawers(slots).remove(slot);
    if (t.root) {
      frames[page] = h;
      h.rootHere = true;
      return page;
    }
    Leaf l = new Leaf(h, t.address, t.entry, t.rights, t.value);
    l.state = t.state;
    frames[page] = l;
    h.known.put(t.address, true);
    h.map.put(t.address, page);
    return page;
  }

  private int remove(int page) {
    Object held = frame(page);
    need(0, held != null);
    Leaf l = leaf(page);
    if (held instanceof House) {
      need(2, leavesHere((House) held) == 0);
      houses[Arrays.asList(houses).indexOf(held)] = null;
    } else if (l != null) {
      need(2, inside(l.house).isEmpty());
      l.house.known.remove(l.address);
    } else {
      need(2, drawers(page).isEmpty());
    }
    frames[page] = null;
    return held instanceof House ? 1 : l == null ? 4 : l.entry ? 3 : 2;
  }

  private int map(int room, int address, int page) {
    House h = house(room);
    need(0, h != null);
    need(1, in(address, 0, h.size - 1), in(page, -1, pages - 1));
    int before = h.map.getOrDefault(address, -1);
    need(2, before != page);
    h.map.put(address, page);
    return before;
  }

  private int byHand(int sort, int a, int b) {
    if (sort == 19) {
      need(0, in(a, 0, cores - 1));
      need(1, in(b, 0, 999));
      int before = runners[a].register;
      need(2, runners[a].by == null, before != b);
      runners[a].register = b;
      return before;
    }
    need(0, in(a, 0, 11) && letters[a] != null);
    Letter t = letters[a];
    if (sort == 16) {
      int place = Arrays.asList(letters).indexOf(null);
      need(3, place >= 0);
      letters[place] = t;
      return place;
    }
    if (sort == 17) {
      need(1, in(b, 0, 999));
      need(2, t.value != b);
      letters[a] = new Letter(t, b);
      return t.value;
    }
    letters[a] = null;
    return t.version;
  }

  // ---- what is asked apart ----

  @Override
  public int measure(int room) {
    return house(room) == null ? 0 : house(room).measure;
  }

  @Override
  public boolean isSlots(int page) {
    return drawers(page) != null;
  }

  @Override
  public int slotOf(int copy) {
    Letter t = in(copy, 0, 11) ? letters[copy] : null;
    for (int p = 0; t != null && p < pages; p++) {
      for (int slot = 0; slot < 4 && drawers(p) != null; slot++) {
        if (drawers(p).getOrDefault(slot, 0) == t.version) return 10 * p + slot;
      }
    }
    return -1;
  }

  @Override
  public boolean isInside(int core) {
    return in(core, 0, cores - 1) && runners[core].by != null;
  }

  int old() {
    int bits = 0;
    for (int i = 0; i < 12; i++) {
      Letter t = letters[i];
      if (t == null) continue;
      boolean there = false;
      for (House h : houses) there |= h != null && h.serial == t.serial;
      boolean held = false;
      for (int p = 0; p < pages; p++) held |= drawers(p) != null && drawers(p).containsValue(t.version);
      if (t.touched || !there || !held) bits |= 1 << i;
    }
    return bits;
  }

  int waits(int page) {
    Leaf l = leaf(page);
    if (l == null) return -1;
    int bits = 0;
    for (int i = 0; i < cores; i++) {
      Runner r = runners[i];
      if (r.by != null && r.by.house == l.house && r.since <= (l.blockedIn == null ? l.house.epoch : l.blockedIn)) bits |= 1 << i;
    }
    return bits;
  }

  int leaks(int room) {
    House h = house(room);
    if (h == null) return -1;
    int bits = 0;
    for (Runner r : inside(h)) {
      for (Leaf l : r.sees) bits |= l.blockedIn == null ? 0 : 1 << l.address;
    }
    return bits;
  }

  int lies(int room) {
    House h = house(room);
    if (h == null) return -1;
    int bits = 0;
    for (Map.Entry<Integer, Integer> one : h.map.entrySet()) {
      Leaf l = leaf(one.getValue());
      boolean theirs = l != null && l.house == h && l.address == one.getKey();
      if (one.getValue() >= 0 && !theirs) bits |= 1 << one.getKey();
    }
    return bits;
  }

  @Override
  public int victim() {
    Map<String, Integer> best = new LinkedHashMap<>();
    for (int p = pages - 1; p >= 0; p--) {
      if (canGo(frames[p])) best.put(frames[p] instanceof House ? "root" : leaf(p).entry ? "entry" : "plain", p);
    }
    return best.getOrDefault("plain", best.getOrDefault("entry", best.getOrDefault("root", -1)));
  }

  /** How this differs from what the object tells, or null. */
  String difference(ClosedRooms x) {
    StringBuilder mine = new StringBuilder();
    StringBuilder its = new StringBuilder();
    for (int p = 0; p < pages; p++) {
      Leaf l = leaf(p);
      boolean root = frames[p] instanceof House;
      House h = root ? (House) frames[p] : l == null ? null : l.house;
      int kind = root ? 1 : l != null ? l.entry ? 3 : 2 : frames[p] == null ? 0 : 4;
      pair(mine, its, kind, x.page(p, 0));
      pair(mine, its, h == null ? -1 : Arrays.asList(houses).indexOf(h), x.page(p, 1));
      pair(mine, its, l == null ? -1 : l.address, x.page(p, 2));
      pair(mine, its, root ? 0 : l == null ? -1 : l.rights, x.page(p, 3));
      pair(mine, its, root ? 0 : l == null ? -1 : l.blockedIn == null ? 0 : 1, x.page(p, 4));
      pair(mine, its, kind != 3 ? -1 : Arrays.asList("idle", "taken", "haste").indexOf(l.state), x.page(p, 5));
      for (int s = 0; s < 4; s++) pair(mine, its, drawers(p) == null ? -1 : drawers(p).getOrDefault(s, 0), x.version(p, s));
      pair(mine, its, waits(p), x.waits(p));
    }
    for (int r = 0; r < 4; r++) compareRoom(mine, its, x, r);
    for (int c = 0; c < cores; c++) {
      Runner r = runners[c];
      pair(mine, its, r.register, x.core(c, 0));
      pair(mine, its, r.by == null ? -1 : Arrays.asList(houses).indexOf(r.by.house), x.core(c, 1));
      pair(mine, its, r.by == null ? -1 : pageOf(r.by), x.core(c, 2));
      pair(mine, its, r.since, x.core(c, 3));
      pair(mine, its, r.sees.size(), x.core(c, 4));
      for (int i = 0; i < 3; i++) {
        pair(mine, its, i < r.sees.size() ? r.sees.get(i).address : -1, x.seen(c, i, 0));
        pair(mine, its, i < r.sees.size() ? pageOf(r.sees.get(i)) : -1, x.seen(c, i, 1));
      }
    }
    for (int i = 0; i < 12; i++) {
      Letter t = letters[i];
      int[] due = t == null ? new int[] {-1000000, -1000000, -1000000, -1000000, -1000000, -1000000}
          : new int[] {t.serial, t.address, t.root ? 1 : t.entry ? 3 : 2, t.rights, t.version, t.touched ? 1 : 0};
      for (int what = 0; what < 6; what++) pair(mine, its, due[what], x.copyOf(i, what));
    }
    pair(mine, its, versions, x.all(4));
    pair(mine, its, serials, x.all(5));
    pair(mine, its, old(), x.old());
    pair(mine, its, victim(), x.victim());
    pair(mine, its, undoable, x.count(4));
    pair(mine, its, Math.min(60, log.size()), x.count(3));
    int length = Math.min(60, log.size());
    for (int i = 0; i < length; i++) {
      for (int what = 0; (i < 3 || i == length - 1) && what < 3; what++) pair(mine, its, log.get(log.size() - 1 - i)[what], x.log(i, what));
    }
    for (int i = 0; i < 5; i++) pair(mine, its, status[i], x.status(i));
    return mine.toString().equals(its.toString()) ? null : "\n due " + mine + "\n got " + its;
  }

  private void compareRoom(StringBuilder mine, StringBuilder its, ClosedRooms x, int r) {
    House h = houses[r];
    int[] due = new int[9];
    Arrays.fill(due, Check.NO_SUCH_ELEMENT);
    if (h != null) {
      int inside = 0;
      for (int i = 0; i < cores; i++) inside |= runners[i].by != null && runners[i].by.house == h ? 1 << i : 0;
      int here = 0;
      int out = 0;
      for (Map.Entry<Integer, Boolean> one : h.known.entrySet()) {
        if (one.getValue()) here |= 1 << one.getKey();
        else out |= 1 << one.getKey();
      }
      due = new int[] {h.serial, h.size, h.isSealed ? 2 : 1, h.measure, h.epoch, h.rootHere ? 0 : 1, inside, here, out};
    }
    for (int i = 0; i < 9; i++) pair(mine, its, due[i], Check.room(x, r, i));
    for (int i = 0; i < 8; i++) pair(mine, its, h == null ? -1 : h.map.getOrDefault(i, -1), x.mapped(r, i));
    pair(mine, its, leaks(r), x.leaks(r));
    pair(mine, its, lies(r), x.lies(r));
  }

  private static void pair(StringBuilder mine, StringBuilder its, int due, int got) {
    mine.append(due).append(' ');
    its.append(got).append(' ');
  }
}
