import java.util.NoSuchElementException;

/** Closed rooms in a machine. DOC.md promises what each call answers; words in capitals are its terms. */
public final class ClosedRooms {
  public static final int NONE = -1;
  public static final int HIDDEN = -1000000;

  private static final int MOST_PAGES = 10;
  private static final int MOST_CORES = 3;
  private static final int MOST_SEEN = 3;
  private static final int MOST_ROOMS = 4;
  private static final int MOST_ADDRESSES = 8;
  private static final int MOST_COPIES = 12;
  private static final int SLOTS_A_PAGE = 4;
  private static final int MOST_VALUE = 999;
  private static final int MOST_RIGHTS = 7;
  private static final int MOST_LOGGED = 60;
  private static final int MOST_UNDONE = 40;
  private static final int PAST_ROWS = 41;
  private static final int MOST_BYTES = 320;
  private static final int MOST_SCRIPTS = 4;
  private static final int MOST_STEPS = 12;
  private static final int STEP_CELLS = 6;
  private static final int ANY_EPOCH = 2147483647;

  // The KINDS of a PAGE.
  private static final int FREE = 0;
  private static final int ROOT = 1;
  private static final int PLAIN = 2;
  private static final int ENTRY = 3;
  private static final int SLOTS = 4;

  // What an ENTRY is.
  private static final int IDLE = 0;
  private static final int TAKEN = 1;
  private static final int LEFT_IN_HASTE = 2;

  // Where the page of an ADDRESS is.
  private static final int NOWHERE = 0;
  private static final int HERE = 1;
  private static final int OUT = 2;

  // STATUS: why an ACT was refused.
  private static final int NO_SUCH = 0;
  private static final int OUT_OF_BOUNDS = 1;
  private static final int NOT_SO = 2;
  private static final int NO_PLACE = 3;
  private static final int FOUND = 4;
  private static final int REASONS = 5;

  // The sorts of ACTS, as the LOG numbers them; those of STEPS stand first.
  private static final int CREATE = 0;
  private static final int MAKE_SLOTS = 1;
  private static final int ADD = 2;
  private static final int EXTEND = 3;
  private static final int SEAL = 4;
  private static final int ENTER = 5;
  private static final int LEAVE = 6;
  private static final int TRAP = 7;
  private static final int RESUME = 8;
  private static final int TOUCH = 9;
  private static final int BLOCK = 10;
  private static final int TRACK = 11;
  private static final int EVICT = 12;
  private static final int LOAD = 13;
  private static final int REMOVE = 14;
  private static final int MAP = 15;
  private static final int DOUBLE = 16;
  private static final int CHANGE = 17;
  private static final int DROP = 18;
  private static final int TELL = 19;
  private static final int STEP_SORTS = 16;

  // The sorts of TEXTS, and the bounds of what their WORDS tell.
  private static final int MACHINE = 0;
  private static final int SCRIPT = 1;
  private static final int RULES = 4;
  private static final int KEY = 3;
  private static final int[] RULE_LEAST = {3, 1, 1, 1};
  private static final int[] RULE_MOST = {10, 3, 3, 999};
  private static final int[] RULE_WITHOUT = {8, 2, 2, 7};
  private static final int[] STEP_NUMBERS = {1, 0, 5, 2, 1, 3, 1, 1, 3, 3, 1, 1, 3, 3, 1, 3};

  private final Tape tape = new Tape();
  private final int[] rules = new int[RULES];
  private boolean hasMachine = false;
  private final Script[] scripts = new Script[MOST_SCRIPTS];
  private int scriptCount = 0;
  private final Acts acts = new Acts();
  private final World world = acts.world;
  private final Acts trial = new Acts();
  private final World kept = new World();
  private boolean hasImage = false;
  // One row more than can be undone: the row at pastNext is free to be written even for an ACT that is refused then.
  private final World[] past = new World[PAST_ROWS];
  private int pastNext = 0;
  private int undoable = 0;
  private final int[] refused = new int[REASONS];

  public ClosedRooms() {
    for (int i = 0; i < MOST_SCRIPTS; i++) scripts[i] = new Script();
    for (int i = 0; i < PAST_ROWS; i++) past[i] = new World();
  }

  // ---- texts ----

  public int feed(int a, int b, int c, int d, int e) {
    int more = bytesOf(a) + bytesOf(b) + bytesOf(c) + bytesOf(d) + bytesOf(e);
    if (tape.length + more > MOST_BYTES) return NONE;
    tape.append(a);
    tape.append(b);
    tape.append(c);
    tape.append(d);
    tape.append(e);
    return tape.length;
  }

  private static int bytesOf(int number) {
    int bytes = 0;
    for (int shift = 24; shift >= 0; shift -= 8) {
      if (((number >>> shift) & 255) != 0) bytes++;
    }
    return bytes;
  }

  public boolean end(int n) {
    if (n < 0 || n > tape.length) return false;
    tape.length = n;
    return true;
  }

  public int fault(int sort) {
    if (sort != MACHINE && sort != SCRIPT) return -2;
    return tape.faultAs(sort);
  }

  public int text(int sort) {
    if (sort == MACHINE) return takeMachine();
    if (sort == SCRIPT) return takeScript();
    return NONE;
  }

  private int takeMachine() {
    if (tape.faultAs(MACHINE) != NONE) return NONE;
    tape.length = 0;
    System.arraycopy(tape.rules, 0, rules, 0, RULES);
    hasMachine = true;
    hasImage = false;
    undoable = 0;
    world.begin(rules[0], rules[1], rules[2]);
    return rules[0];
  }

  private int takeScript() {
    if (scriptCount < 0 || scriptCount >= MOST_SCRIPTS) return NONE;
    if (tape.faultAs(SCRIPT) != NONE) return NONE;
    tape.length = 0;
    scripts[scriptCount].take(tape.script);
    scriptCount++;
    return scriptCount - 1;
  }

  // ---- what is ----

  public int rule(int what) {
    if (!hasMachine || what < 0 || what >= RULES) return NONE;
    return rules[what];
  }

  public int page(int page, int what) {
    if (!world.isPage(page) || what < 0 || what > 5) return HIDDEN;
    Page p = world.pages[page];
    if (what == 0) return p.kind;
    if (!p.hasRoom()) return NONE;
    switch (what) {
      case 1: return p.room;
      case 2: return p.address;
      case 3: return p.rights;
      case 4: return p.blocked ? 1 : 0;
      default: return p.kind == ENTRY ? p.entry : NONE;
    }
  }

  public int version(int page, int slot) {
    if (!world.isSlots(page) || slot < 0 || slot >= SLOTS_A_PAGE) return NONE;
    return world.pages[page].versions[slot];
  }

  public int room(int room, int what) throws NoSuchElementException {
    if (!world.isRoom(room) || what < 0 || what > 8) throw new NoSuchElementException("no such room or what");
    Room r = world.rooms[room];
    switch (what) {
      case 0: return r.serial;
      case 1: return r.size;
      case 2: return r.sealed ? 2 : 1;
      case 3: return r.measure;
      case 4: return r.epoch;
      case 5: return r.away ? 1 : 0;
      case 6: return world.coresInside(room, ANY_EPOCH);
      case 7: return r.addressesThatAre(HERE);
      default: return r.addressesThatAre(OUT);
    }
  }

  public int mapped(int room, int address) {
    if (!world.isRoom(room) || !world.rooms[room].hasAddress(address)) return NONE;
    return world.rooms[room].map[address];
  }

  public int core(int core, int what) {
    if (!world.isCore(core) || what < 0 || what > 4) return HIDDEN;
    Core c = world.cores[core];
    switch (what) {
      case 0: return c.register;
      case 1: return c.room;
      case 2: return c.entry;
      case 3: return c.since;
      default: return c.seenCount;
    }
  }

  public int seen(int core, int i, int what) {
    if (!world.isCore(core) || what < 0 || what > 1) return NONE;
    Core c = world.cores[core];
    if (i < 0 || i >= c.seenCount || i >= MOST_SEEN) return NONE;
    return what == 0 ? c.seenAddress[i] : c.seenPage[i];
  }

  public int copyOf(int copy, int what) {
    if (!world.isCopy(copy) || what < 0 || what > 5) return HIDDEN;
    Copy c = world.copies[copy];
    switch (what) {
      case 0: return c.serial;
      case 1: return c.address;
      case 2: return c.kind;
      case 3: return c.rights;
      case 4: return c.version;
      default: return c.changed ? 1 : 0;
    }
  }

  // ---- acts ----

  public int create(int size) {
    return act(CREATE, NONE, size, 0, 0, 0, 0);
  }

  public int slots() {
    return act(MAKE_SLOTS, NONE, NONE, 0, 0, 0, 0);
  }

  public int add(int room, int address, int kind, int rights, int value) {
    return act(ADD, NONE, room, address, kind, rights, value);
  }

  public int extend(int room, int address) {
    return act(EXTEND, HIDDEN, room, address, 0, 0, 0);
  }

  public int seal(int room, int measure) {
    return act(SEAL, NONE, room, measure, 0, 0, 0);
  }

  public int enter(int core, int room, int address) {
    return act(ENTER, NONE, core, room, address, 0, 0);
  }

  public int leave(int core) {
    return act(LEAVE, NONE, core, 0, 0, 0, 0);
  }

  public int trap(int core) {
    return act(TRAP, NONE, core, 0, 0, 0, 0);
  }

  public int resume(int core, int room, int address) {
    return act(RESUME, NONE, core, room, address, 0, 0);
  }

  public int touch(int core, int address, int how) {
    return act(TOUCH, NONE, core, address, how, 0, 0);
  }

  public int block(int page) {
    return act(BLOCK, NONE, page, 0, 0, 0, 0);
  }

  public int track(int room) {
    return act(TRACK, NONE, room, 0, 0, 0, 0);
  }

  public int evict(int page, int slots, int slot) {
    return act(EVICT, NONE, page, slots, slot, 0, 0);
  }

  public int load(int copy, int slots, int slot) {
    return act(LOAD, NONE, copy, slots, slot, 0, 0);
  }

  public int remove(int page) {
    return act(REMOVE, NONE, page, 0, 0, 0, 0);
  }

  public int map(int room, int address, int page) {
    return act(MAP, HIDDEN, room, address, page, 0, 0);
  }

  public int twice(int copy) {
    return act(DOUBLE, NONE, copy, 0, 0, 0, 0);
  }

  public int change(int copy, int value) {
    return act(CHANGE, NONE, copy, value, 0, 0, 0);
  }

  public int drop(int copy) {
    return act(DROP, NONE, copy, 0, 0, 0, 0);
  }

  public int tell(int core, int value) {
    return act(TELL, NONE, core, value, 0, 0, 0);
  }

  /** An ACT by its sort and numbers: its answer, or the one for refused ones, which STATUS counts. */
  private int act(int sort, int ifRefused, int a, int b, int c, int d, int e) {
    pastRow().take(world);
    int answer = acts.carryOut(sort, a, b, c, d, e);
    if (keepsAct(sort, a, answer)) return answer;
    int reason = acts.refusal;
    if (reason >= 0 && reason < REASONS) refused[reason]++;
    return ifRefused;
  }

  private World pastRow() {
    return past[Math.floorMod(pastNext, PAST_ROWS)];
  }

  /** Whether the ACT just tried was done; if so, the LOG has it and it can be UNDONE. */
  private boolean keepsAct(int sort, int first, int answer) {
    if (acts.refusal != NONE) return false;
    world.log.write(sort, first, answer);
    pastNext = Math.floorMod(pastNext + 1, PAST_ROWS);
    if (undoable < MOST_UNDONE) undoable++;
    return true;
  }

  // ---- reports, status, undo, log ----

  public int report(int core, int room) {
    if (!world.isInside(core) || !world.isRoom(room)) return HIDDEN;
    Core c = world.cores[core];
    return reportFrom(c.room, room, c.register);
  }

  public boolean proves(int core, int room, int register, int report) {
    if (!world.isInside(core) || !world.isRoom(room)) return false;
    return reportFrom(room, world.cores[core].room, register) == report;
  }

  private int reportFrom(int own, int other, int register) {
    int sum = rules[KEY] * 31 + world.measureOf(own);
    sum = sum * 31 + world.measureOf(other);
    return sum * 31 + register;
  }

  public int status(int what) {
    if (what < 0 || what >= REASONS) return NONE;
    return refused[what];
  }

  public int undo() {
    if (undoable <= 0) return NONE;
    pastNext = Math.floorMod(pastNext - 1, PAST_ROWS);
    world.take(pastRow());
    undoable--;
    return undoable;
  }

  public int log(int i, int what) {
    if (i < 0 || i >= world.log.length || what < 0 || what > 2) return HIDDEN;
    return world.log.told(i, what);
  }

  // ---- apart, from as it is now ----

  public int old() {
    if (!hasMachine) return NONE;
    int bits = 0;
    for (int i = 0; i < MOST_COPIES; i++) {
      if (world.isCopy(i) && world.isOld(world.copies[i])) bits |= 1 << i;
    }
    return bits;
  }

  public int twins(int copy) {
    if (!world.isCopy(copy)) return NONE;
    int bits = 0;
    for (int i = 0; i < MOST_COPIES; i++) {
      if (i != copy && world.isCopy(i) && world.copies[i].version == world.copies[copy].version) bits |= 1 << i;
    }
    return bits;
  }

  public int waits(int page) {
    if (!world.isPage(page)) return NONE;
    Page p = world.pages[page];
    if (!p.hasAddress() || !world.isRoom(p.room)) return NONE;
    return world.coresInside(p.room, p.blocked ? p.blockedIn : world.rooms[p.room].epoch);
  }

  public int leaks(int room) {
    if (!world.isRoom(room)) return NONE;
    int bits = 0;
    for (int i = 0; i < world.coreCount; i++) {
      if (world.isCore(i) && world.cores[i].room == room) bits |= world.leaksOf(world.cores[i]);
    }
    return bits;
  }

  public int lies(int room) {
    if (!world.isRoom(room)) return NONE;
    Room r = world.rooms[room];
    int bits = 0;
    for (int i = 0; i < MOST_ADDRESSES; i++) {
      if (r.hasAddress(i) && r.map[i] != NONE && !world.isPageOf(r.map[i], room, i)) bits |= 1 << i;
    }
    return bits;
  }

  public int victim() {
    int found = victimOf(PLAIN);
    if (found == NONE) found = victimOf(ENTRY);
    if (found == NONE) found = victimOf(ROOT);
    return found;
  }

  private int victimOf(int kind) {
    for (int i = 0; i < world.pageCount; i++) {
      if (world.isPage(i) && world.pages[i].kind == kind && world.canGo(i)) return i;
    }
    return NONE;
  }

  public int paper(int script) {
    if (!isScript(script)) return HIDDEN;
    return scripts[script].paperMeasure();
  }

  public boolean alike(int room, int other) {
    if (!world.isRoom(room) || !world.isRoom(other) || room == other) return false;
    return world.rooms[room].measure == world.rooms[other].measure;
  }

  public int spell(int page, int i) {
    if (!world.isPage(page) || i < NONE) return NONE;
    Page p = world.pages[page];
    StringBuilder words = new StringBuilder();
    if (p.hasRoom()) words.append("room ").append(p.room).append(" page ");
    else words.append(p.kind == SLOTS ? "slots " : "free ");
    words.append(page);
    if (i == NONE) return words.length();
    return i < words.length() ? words.charAt(i) : NONE;
  }

  // ---- scripts ----

  private boolean isScript(int script) {
    return script >= 0 && script < scriptCount && script < MOST_SCRIPTS;
  }

  public int step(int script, int i, int what) {
    if (!isScript(script) || !scripts[script].hasStep(i) || what < 0 || what >= STEP_CELLS) return HIDDEN;
    return scripts[script].told(i, what);
  }

  public int run(int script, int what) {
    if (!hasMachine || !isScript(script) || what < 0 || what > 1) return HIDDEN;
    trial.world.take(world);
    Script s = scripts[script];
    for (int i = 0; i < s.length; i++) {
      trial.carryOutStep(s, i);
      if (trial.refusal != NONE) return what == 0 ? i : trial.refusal;
    }
    return NONE;
  }

  public int perform(int script) {
    if (!hasMachine || !isScript(script)) return NONE;
    Script s = scripts[script];
    int done = 0;
    while (done < s.length && doesStep(s, done)) done++;
    return done;
  }

  private boolean doesStep(Script s, int i) {
    pastRow().take(world);
    int answer = acts.carryOutStep(s, i);
    return keepsAct(s.told(i, 0), s.told(i, 1), answer);
  }

  // ---- all, images ----

  public int all(int what) {
    if (!hasMachine) return HIDDEN;
    switch (what) {
      case 0: return world.freePages();
      case 1: return world.roomsThere();
      case 2: return world.coresInsideAny();
      case 3: return world.copiesThere();
      case 4: return world.versionsGiven;
      case 5: return world.serialsGiven;
      case 6: return world.emptySlots();
      case 7: return world.blockedPages();
      case 8: return world.fullestRoom();
      default: return HIDDEN;
    }
  }

  public int image() {
    if (!hasMachine) return NONE;
    kept.take(world);
    hasImage = true;
    return Integer.bitCount(world.freePages());
  }

  public int back() {
    if (!hasImage) return NONE;
    world.take(kept);
    undoable = 0;
    return Integer.bitCount(world.freePages());
  }

  public int count(int what) {
    switch (what) {
      case 0: return world.pageCount;
      case 1: return scriptCount;
      case 2: return tape.length;
      case 3: return world.log.length;
      case 4: return undoable;
      default: return HIDDEN;
    }
  }

  /** A PAGE; what it has beside its KIND means something for some KINDS only. Its room is NONE where it has none. */
  private static final class Page {
    int kind;
    int room;
    int address;
    int rights;
    int value;
    boolean blocked;
    int blockedIn;
    int entry;
    final int[] versions = new int[SLOTS_A_PAGE];

    Page() {
      begin(FREE, NONE);
    }

    /** As a PAGE of this KIND is at first. */
    void begin(int newKind, int newRoom) {
      kind = newKind;
      room = newRoom;
      address = NONE;
      rights = 0;
      value = 0;
      blocked = false;
      blockedIn = 0;
      entry = IDLE;
      for (int i = 0; i < SLOTS_A_PAGE; i++) versions[i] = 0;
    }

    void take(Page other) {
      kind = other.kind;
      room = other.room;
      address = other.address;
      rights = other.rights;
      value = other.value;
      blocked = other.blocked;
      blockedIn = other.blockedIn;
      entry = other.entry;
      System.arraycopy(other.versions, 0, versions, 0, SLOTS_A_PAGE);
    }

    boolean hasRoom() {
      return kind == ROOT || kind == PLAIN || kind == ENTRY;
    }

    boolean hasAddress() {
      return kind == PLAIN || kind == ENTRY;
    }

    int emptySlots() {
      int empty = 0;
      for (int i = 0; i < SLOTS_A_PAGE; i++) {
        if (versions[i] == 0) empty++;
      }
      return empty;
    }

    boolean hasVersion(int version) {
      for (int i = 0; i < SLOTS_A_PAGE; i++) {
        if (versions[i] == version) return true;
      }
      return false;
    }
  }

  private static final class Room {
    boolean there = false;
    int serial = 0;
    int size = 0;
    boolean sealed = false;
    int measure = 0;
    int epoch = 0;
    boolean away = false;
    final int[] where = new int[MOST_ADDRESSES];
    final int[] map = new int[MOST_ADDRESSES];

    void begin(int newSerial, int newSize) {
      there = true;
      serial = newSerial;
      size = newSize;
      sealed = false;
      measure = 7 + newSize;
      epoch = 0;
      away = false;
      for (int i = 0; i < MOST_ADDRESSES; i++) {
        where[i] = NOWHERE;
        map[i] = NONE;
      }
    }

    void take(Room other) {
      there = other.there;
      serial = other.serial;
      size = other.size;
      sealed = other.sealed;
      measure = other.measure;
      epoch = other.epoch;
      away = other.away;
      System.arraycopy(other.where, 0, where, 0, MOST_ADDRESSES);
      System.arraycopy(other.map, 0, map, 0, MOST_ADDRESSES);
    }

    boolean hasAddress(int address) {
      return address >= 0 && address < size && address < MOST_ADDRESSES;
    }

    boolean canBeBuilt() {
      return !sealed && !away;
    }

    /** The ADDRESS has its page here now, and MAP tells it. */
    void settle(int address, int page) {
      if (!hasAddress(address)) return;
      where[address] = HERE;
      map[address] = page;
    }

    void place(int address, int newWhere) {
      if (hasAddress(address)) where[address] = newWhere;
    }

    int addressesThatAre(int asked) {
      int bits = 0;
      for (int i = 0; i < MOST_ADDRESSES; i++) {
        if (hasAddress(i) && where[i] == asked) bits |= 1 << i;
      }
      return bits;
    }
  }

  private static final class Core {
    int register = 0;
    int room = NONE;
    int entry = NONE;
    int since = NONE;
    int seenCount = 0;
    final int[] seenAddress = new int[MOST_SEEN];
    final int[] seenPage = new int[MOST_SEEN];

    void begin() {
      register = 0;
      goOutside();
    }

    void goOutside() {
      room = NONE;
      entry = NONE;
      since = NONE;
      seenCount = 0;
    }

    void goInside(int newRoom, int newEntry, int epoch) {
      room = newRoom;
      entry = newEntry;
      since = epoch;
      seenCount = 0;
    }

    void take(Core other) {
      register = other.register;
      room = other.room;
      entry = other.entry;
      since = other.since;
      seenCount = other.seenCount;
      System.arraycopy(other.seenAddress, 0, seenAddress, 0, MOST_SEEN);
      System.arraycopy(other.seenPage, 0, seenPage, 0, MOST_SEEN);
    }

    /** The PAGE by which it SEES an ADDRESS, or NONE. */
    int pageSeenAt(int address) {
      for (int i = 0; i < seenCount && i < MOST_SEEN; i++) {
        if (seenAddress[i] == address) return seenPage[i];
      }
      return NONE;
    }

    void see(int address, int page, int hold) {
      if (seenCount >= hold || seenCount >= MOST_SEEN) forgetLongestSeen();
      if (seenCount < 0 || seenCount >= MOST_SEEN) return;
      seenAddress[seenCount] = address;
      seenPage[seenCount] = page;
      seenCount++;
    }

    private void forgetLongestSeen() {
      if (seenCount <= 0) return;
      seenCount--;
      for (int i = 0; i < seenCount && i + 1 < MOST_SEEN; i++) {
        seenAddress[i] = seenAddress[i + 1];
        seenPage[i] = seenPage[i + 1];
      }
    }
  }

  private static final class Copy {
    boolean there = false;
    int serial = 0;
    int address = NONE;
    int kind = FREE;
    int rights = 0;
    int value = 0;
    boolean leftInHaste = false;
    int version = 0;
    boolean changed = false;

    void keep(Page page, int newSerial, int newVersion) {
      there = true;
      serial = newSerial;
      address = page.address;
      kind = page.kind;
      rights = page.rights;
      value = page.value;
      leftInHaste = page.entry == LEFT_IN_HASTE;
      version = newVersion;
      changed = false;
    }

    void fill(Page page, int room) {
      page.begin(kind, room);
      page.address = address;
      page.rights = rights;
      page.value = value;
      page.entry = leftInHaste ? LEFT_IN_HASTE : IDLE;
    }

    void take(Copy other) {
      there = other.there;
      serial = other.serial;
      address = other.address;
      kind = other.kind;
      rights = other.rights;
      value = other.value;
      leftInHaste = other.leftInHaste;
      version = other.version;
      changed = other.changed;
    }
  }

  /** The latest ACTS, in rows that are written round and round. */
  private static final class Log {
    int length = 0;
    private int next = 0;
    private final int[] sorts = new int[MOST_LOGGED];
    private final int[] firsts = new int[MOST_LOGGED];
    private final int[] answers = new int[MOST_LOGGED];

    void begin() {
      length = 0;
      next = 0;
    }

    void write(int sort, int first, int answer) {
      int at = Math.floorMod(next, MOST_LOGGED);
      sorts[at] = sort;
      firsts[at] = first;
      answers[at] = answer;
      next = Math.floorMod(at + 1, MOST_LOGGED);
      if (length < MOST_LOGGED) length++;
    }

    int told(int i, int what) {
      int at = Math.floorMod(next - 1 - i, MOST_LOGGED);
      if (what == 0) return sorts[at];
      return what == 1 ? firsts[at] : answers[at];
    }

    void take(Log other) {
      length = other.length;
      next = other.next;
      System.arraycopy(other.sorts, 0, sorts, 0, MOST_LOGGED);
      System.arraycopy(other.firsts, 0, firsts, 0, MOST_LOGGED);
      System.arraycopy(other.answers, 0, answers, 0, MOST_LOGGED);
    }
  }

  /** All that an ACT may change: what an UNDO and an IMAGE bring back. */
  private static final class World {
    int pageCount = 0;
    int coreCount = 0;
    int hold = 0;
    int versionsGiven = 0;
    int serialsGiven = 0;
    final Page[] pages = new Page[MOST_PAGES];
    final Room[] rooms = new Room[MOST_ROOMS];
    final Core[] cores = new Core[MOST_CORES];
    final Copy[] copies = new Copy[MOST_COPIES];
    final Log log = new Log();

    World() {
      for (int i = 0; i < MOST_PAGES; i++) pages[i] = new Page();
      for (int i = 0; i < MOST_ROOMS; i++) rooms[i] = new Room();
      for (int i = 0; i < MOST_CORES; i++) cores[i] = new Core();
      for (int i = 0; i < MOST_COPIES; i++) copies[i] = new Copy();
    }

    void begin(int newPages, int newCores, int newHold) {
      pageCount = newPages;
      coreCount = newCores;
      hold = newHold;
      versionsGiven = 0;
      serialsGiven = 0;
      for (int i = 0; i < MOST_PAGES; i++) pages[i].begin(FREE, NONE);
      for (int i = 0; i < MOST_ROOMS; i++) rooms[i].there = false;
      for (int i = 0; i < MOST_CORES; i++) cores[i].begin();
      for (int i = 0; i < MOST_COPIES; i++) copies[i].there = false;
      log.begin();
    }

    void take(World other) {
      pageCount = other.pageCount;
      coreCount = other.coreCount;
      hold = other.hold;
      versionsGiven = other.versionsGiven;
      serialsGiven = other.serialsGiven;
      for (int i = 0; i < MOST_PAGES; i++) pages[i].take(other.pages[i]);
      for (int i = 0; i < MOST_ROOMS; i++) rooms[i].take(other.rooms[i]);
      for (int i = 0; i < MOST_CORES; i++) cores[i].take(other.cores[i]);
      for (int i = 0; i < MOST_COPIES; i++) copies[i].take(other.copies[i]);
      log.take(other.log);
    }

    boolean isPage(int page) {
      return page >= 0 && page < pageCount && page < MOST_PAGES;
    }

    boolean isFilled(int page) {
      return isPage(page) && pages[page].kind != FREE;
    }

    boolean isSlots(int page) {
      return isPage(page) && pages[page].kind == SLOTS;
    }

    /** A ROOT is the page of no ADDRESS. */
    boolean isPageOf(int page, int room, int address) {
      return isPage(page) && address != NONE && pages[page].room == room && pages[page].address == address;
    }

    boolean isRoom(int room) {
      return room >= 0 && room < MOST_ROOMS && rooms[room].there;
    }

    boolean isCore(int core) {
      return core >= 0 && core < coreCount && core < MOST_CORES;
    }

    boolean isInside(int core) {
      return isCore(core) && isRoom(cores[core].room);
    }

    boolean isCopy(int copy) {
      return copy >= 0 && copy < MOST_COPIES && copies[copy].there;
    }

    int lowestFreePage() {
      for (int i = 0; i < pageCount && i < MOST_PAGES; i++) {
        if (pages[i].kind == FREE) return i;
      }
      return NONE;
    }

    int lowestRoomNotThere() {
      for (int i = 0; i < MOST_ROOMS; i++) {
        if (!rooms[i].there) return i;
      }
      return NONE;
    }

    int lowestEmptyPlace() {
      for (int i = 0; i < MOST_COPIES; i++) {
        if (!copies[i].there) return i;
      }
      return NONE;
    }

    int roomOfSerial(int serial) {
      for (int i = 0; i < MOST_ROOMS; i++) {
        if (rooms[i].there && rooms[i].serial == serial) return i;
      }
      return NONE;
    }

    /** The PAGE that is the page of an ADDRESS, whatever MAP tells, or NONE. */
    int pageAt(int room, int address) {
      for (int i = 0; i < pageCount && i < MOST_PAGES; i++) {
        if (pages[i].room == room && pages[i].address == address) return i;
      }
      return NONE;
    }

    int measureOf(int room) {
      return isRoom(room) ? rooms[room].measure : 0;
    }

    int pagesHere(int room) {
      int here = 0;
      for (int i = 0; i < pageCount && i < MOST_PAGES; i++) {
        if (pages[i].room == room) here++;
      }
      return here;
    }

    /** CORES (bits) inside a ROOM since this EPOCH or one ahead of it. */
    int coresInside(int room, int lastEpoch) {
      int bits = 0;
      for (int i = 0; i < coreCount && i < MOST_CORES; i++) {
        if (cores[i].room == room && cores[i].since <= lastEpoch) bits |= 1 << i;
      }
      return bits;
    }

    /** Whether a PAGE could be EVICTED, were there a SLOT and a place for it. */
    boolean canGo(int page) {
      if (!isPage(page)) return false;
      Page p = pages[page];
      if (p.kind == ROOT) return pagesHere(p.room) == 1;
      if (!p.hasAddress() || !p.blocked || !isRoom(p.room)) return false;
      if (p.kind == ENTRY && p.entry == TAKEN) return false;
      return p.blockedIn < rooms[p.room].epoch && coresInside(p.room, p.blockedIn) == 0;
    }

    boolean isOld(Copy copy) {
      if (copy.changed || roomOfSerial(copy.serial) == NONE) return true;
      for (int i = 0; i < pageCount; i++) {
        if (isSlots(i) && pages[i].hasVersion(copy.version)) return false;
      }
      return true;
    }

    int leaksOf(Core core) {
      int bits = 0;
      for (int i = 0; i < core.seenCount && i < MOST_SEEN; i++) {
        int page = core.seenPage[i];
        if (isPage(page) && pages[page].blocked) bits |= 1 << core.seenAddress[i];
      }
      return bits;
    }

    int freePages() {
      int bits = 0;
      for (int i = 0; i < pageCount; i++) {
        if (isPage(i) && pages[i].kind == FREE) bits |= 1 << i;
      }
      return bits;
    }

    int blockedPages() {
      int bits = 0;
      for (int i = 0; i < pageCount; i++) {
        if (isPage(i) && pages[i].blocked) bits |= 1 << i;
      }
      return bits;
    }

    int emptySlots() {
      int empty = 0;
      for (int i = 0; i < pageCount; i++) {
        if (isSlots(i)) empty += pages[i].emptySlots();
      }
      return empty;
    }

    int roomsThere() {
      int bits = 0;
      for (int i = 0; i < MOST_ROOMS; i++) {
        if (rooms[i].there) bits |= 1 << i;
      }
      return bits;
    }

    int coresInsideAny() {
      int bits = 0;
      for (int i = 0; i < coreCount; i++) {
        if (isInside(i)) bits |= 1 << i;
      }
      return bits;
    }

    int copiesThere() {
      int bits = 0;
      for (int i = 0; i < MOST_COPIES; i++) {
        if (copies[i].there) bits |= 1 << i;
      }
      return bits;
    }

    int fullestRoom() {
      int fullest = NONE;
      int most = NONE;
      for (int i = 0; i < MOST_ROOMS; i++) {
        if (isRoom(i) && pagesHere(i) > most) {
          fullest = i;
          most = pagesHere(i);
        }
      }
      return fullest;
    }
  }

  /** The ACTS on one world. Each looks at all that could refuse it, by STATUS from 0 on, ahead of its first change. */
  private static final class Acts {
    final World world = new World();
    /** The STATUS by which the latest ACT was refused, or NONE. */
    int refusal = NONE;

    private int refuse(int reason) {
      refusal = reason;
      return NONE;
    }

    int carryOut(int sort, int a, int b, int c, int d, int e) {
      refusal = NONE;
      switch (sort) {
        case CREATE: return makeRoom(a);
        case MAKE_SLOTS: return makeSlots();
        case ADD: return addPage(a, b, c, d, e);
        case EXTEND: return extendBy(a, b);
        case SEAL: return sealRoom(a, b);
        case ENTER: return goIn(a, b, c, IDLE);
        case LEAVE: return goOut(a);
        case TRAP: return goOutInHaste(a);
        case RESUME: return goIn(a, b, c, LEFT_IN_HASTE);
        case TOUCH: return touchPage(a, b, c);
        case BLOCK: return blockPage(a);
        case TRACK: return trackRoom(a);
        case EVICT: return evictPage(a, b, c);
        case LOAD: return loadCopy(a, b, c);
        case REMOVE: return removePage(a);
        case MAP: return tellMap(a, b, c);
        case DOUBLE: return doubleCopy(a);
        case CHANGE: return changeCopy(a, b);
        case DROP: return dropCopy(a);
        case TELL: return tellRegister(a, b);
        default: return refuse(NO_SUCH);
      }
    }

    int carryOutStep(Script s, int i) {
      int sort = s.told(i, 0);
      int first = s.told(i, 1);
      int second = sort == SEAL ? world.measureOf(first) : s.told(i, 2);
      return carryOut(sort, first, second, s.told(i, 3), s.told(i, 4), s.told(i, 5));
    }

    private int makeRoom(int size) {
      if (world.pageCount == 0) return refuse(NO_SUCH);
      if (size < 1 || size > MOST_ADDRESSES) return refuse(OUT_OF_BOUNDS);
      int page = world.lowestFreePage();
      int room = world.lowestRoomNotThere();
      if (page == NONE || room == NONE) return refuse(NO_PLACE);
      world.serialsGiven++;
      world.rooms[room].begin(world.serialsGiven, size);
      world.pages[page].begin(ROOT, room);
      return room;
    }

    private int makeSlots() {
      if (world.pageCount == 0) return refuse(NO_SUCH);
      int page = world.lowestFreePage();
      if (page == NONE) return refuse(NO_PLACE);
      world.pages[page].begin(SLOTS, NONE);
      return page;
    }

    private int addPage(int room, int address, int kind, int rights, int value) {
      if (!world.isRoom(room)) return refuse(NO_SUCH);
      Room r = world.rooms[room];
      if (!r.hasAddress(address) || kind < 0 || kind > 1) return refuse(OUT_OF_BOUNDS);
      if (rights < 1 || rights > MOST_RIGHTS || value < 0 || value > MOST_VALUE) return refuse(OUT_OF_BOUNDS);
      if (!r.canBeBuilt() || r.where[address] != NOWHERE) return refuse(NOT_SO);
      int page = world.lowestFreePage();
      if (page == NONE) return refuse(NO_PLACE);
      Page p = world.pages[page];
      p.begin(kind == 0 ? PLAIN : ENTRY, room);
      p.address = address;
      p.rights = rights;
      p.value = value;
      r.settle(address, page);
      r.measure = measureWithAdd(r.measure, address, kind, rights);
      return page;
    }

    private int extendBy(int room, int address) {
      if (!world.isRoom(room)) return refuse(NO_SUCH);
      Room r = world.rooms[room];
      if (!r.hasAddress(address)) return refuse(OUT_OF_BOUNDS);
      int page = world.pageAt(room, address);
      if (!r.canBeBuilt() || page == NONE) return refuse(NOT_SO);
      r.measure = measureWithExtend(r.measure, world.pages[page].value);
      return r.measure;
    }

    private int sealRoom(int room, int measure) {
      if (!world.isRoom(room)) return refuse(NO_SUCH);
      Room r = world.rooms[room];
      if (!r.canBeBuilt()) return refuse(NOT_SO);
      if (r.measure != measure) return refuse(FOUND);
      r.sealed = true;
      return r.serial;
    }

    /** ENTER by an idle ENTRY, RESUME by one left in haste; a PAGE that is not theirs is FOUND ahead of what it is. */
    private int goIn(int core, int room, int address, int entryMustBe) {
      if (!world.isCore(core) || !world.isRoom(room)) return refuse(NO_SUCH);
      Room r = world.rooms[room];
      Core c = world.cores[core];
      if (!r.hasAddress(address)) return refuse(OUT_OF_BOUNDS);
      if (c.room != NONE || !r.sealed || r.away) return refuse(NOT_SO);
      int page = r.map[address];
      if (!world.isPageOf(page, room, address)) return refuse(FOUND);
      Page p = world.pages[page];
      if (p.kind != ENTRY || p.entry != entryMustBe) return refuse(NOT_SO);
      if (p.blocked) return refuse(FOUND);
      p.entry = TAKEN;
      c.goInside(room, page, r.epoch);
      if (entryMustBe == IDLE) return page;
      c.register = p.value;
      p.value = 0;
      return c.register;
    }

    private int goOut(int core) {
      if (!world.isCore(core)) return refuse(NO_SUCH);
      if (!world.isInside(core)) return refuse(NOT_SO);
      Core c = world.cores[core];
      if (world.isPage(c.entry)) world.pages[c.entry].entry = IDLE;
      c.goOutside();
      return c.register;
    }

    private int goOutInHaste(int core) {
      if (!world.isCore(core)) return refuse(NO_SUCH);
      Core c = world.cores[core];
      int entry = c.entry;
      if (!world.isInside(core) || !world.isPage(entry)) return refuse(NOT_SO);
      Page p = world.pages[entry];
      p.entry = LEFT_IN_HASTE;
      p.value = c.register;
      c.register = 0;
      c.goOutside();
      return entry;
    }

    private int touchPage(int core, int address, int how) {
      if (!world.isCore(core)) return refuse(NO_SUCH);
      if (address < 0 || address >= MOST_ADDRESSES || how < 0 || how > 2) return refuse(OUT_OF_BOUNDS);
      Core c = world.cores[core];
      int room = c.room;
      if (!world.isRoom(room) || !world.rooms[room].hasAddress(address)) return refuse(NOT_SO);
      int page = c.pageSeenAt(address);
      boolean sees = page != NONE;
      if (!sees) page = world.rooms[room].map[address];
      if (!world.isPageOf(page, room, address)) return refuse(FOUND);
      Page p = world.pages[page];
      if (!sees && (p.blocked || p.kind != PLAIN)) return refuse(FOUND);
      if ((p.rights & (1 << how)) == 0) return refuse(FOUND);
      if (!sees) c.see(address, page, world.hold);
      if (how == 0) c.register = p.value;
      else if (how == 1) p.value = c.register;
      else c.register = Math.floorMod(7 * c.register + p.value, 1000);
      return c.register;
    }

    private int blockPage(int page) {
      if (!world.isFilled(page)) return refuse(NO_SUCH);
      Page p = world.pages[page];
      if (!p.hasAddress() || p.blocked || !world.isRoom(p.room) || world.rooms[p.room].away) return refuse(NOT_SO);
      p.blocked = true;
      p.blockedIn = world.rooms[p.room].epoch;
      return p.blockedIn;
    }

    private int trackRoom(int room) {
      if (!world.isRoom(room)) return refuse(NO_SUCH);
      Room r = world.rooms[room];
      if (r.away || world.coresInside(room, r.epoch - 1) != 0) return refuse(NOT_SO);
      r.epoch++;
      return r.epoch;
    }

    private int evictPage(int page, int slots, int slot) {
      if (!world.isFilled(page) || !world.isSlots(slots)) return refuse(NO_SUCH);
      if (slot < 0 || slot >= SLOTS_A_PAGE) return refuse(OUT_OF_BOUNDS);
      if (!world.canGo(page) || world.pages[slots].versions[slot] != 0) return refuse(NOT_SO);
      int place = world.lowestEmptyPlace();
      if (place == NONE) return refuse(NO_PLACE);
      Page p = world.pages[page];
      if (!world.isRoom(p.room)) return refuse(NOT_SO);
      Room r = world.rooms[p.room];
      world.versionsGiven++;
      world.copies[place].keep(p, r.serial, world.versionsGiven);
      world.pages[slots].versions[slot] = world.versionsGiven;
      if (p.kind == ROOT) r.away = true;
      else r.place(p.address, OUT);
      p.begin(FREE, NONE);
      return place;
    }

    private int loadCopy(int copy, int slots, int slot) {
      if (!world.isCopy(copy) || !world.isSlots(slots)) return refuse(NO_SUCH);
      if (slot < 0 || slot >= SLOTS_A_PAGE) return refuse(OUT_OF_BOUNDS);
      int page = world.lowestFreePage();
      if (page == NONE) return refuse(NO_PLACE);
      Copy c = world.copies[copy];
      if (c.changed || world.pages[slots].versions[slot] != c.version) return refuse(FOUND);
      int room = world.roomOfSerial(c.serial);
      if (room == NONE) return refuse(FOUND);
      Room r = world.rooms[room];
      if (c.kind != ROOT && r.away) return refuse(FOUND);
      c.fill(world.pages[page], room);
      if (c.kind == ROOT) r.away = false;
      else r.settle(c.address, page);
      world.pages[slots].versions[slot] = 0;
      return page;
    }

    private int removePage(int page) {
      if (!world.isFilled(page)) return refuse(NO_SUCH);
      Page p = world.pages[page];
      int kind = p.kind;
      if (kind == SLOTS && p.emptySlots() < SLOTS_A_PAGE) return refuse(NOT_SO);
      if (p.hasRoom() && world.coresInside(p.room, ANY_EPOCH) != 0) return refuse(NOT_SO);
      if (kind == ROOT && world.pagesHere(p.room) > 1) return refuse(NOT_SO);
      if (world.isRoom(p.room)) {
        if (kind == ROOT) world.rooms[p.room].there = false;
        else world.rooms[p.room].place(p.address, NOWHERE);
      }
      p.begin(FREE, NONE);
      return kind;
    }

    private int tellMap(int room, int address, int page) {
      if (!world.isRoom(room)) return refuse(NO_SUCH);
      Room r = world.rooms[room];
      if (!r.hasAddress(address) || (page != NONE && !world.isPage(page))) return refuse(OUT_OF_BOUNDS);
      int before = r.map[address];
      if (before == page) return refuse(NOT_SO);
      r.map[address] = page;
      return before;
    }

    private int doubleCopy(int copy) {
      if (!world.isCopy(copy)) return refuse(NO_SUCH);
      int place = world.lowestEmptyPlace();
      if (place == NONE) return refuse(NO_PLACE);
      world.copies[place].take(world.copies[copy]);
      return place;
    }

    private int changeCopy(int copy, int value) {
      if (!world.isCopy(copy)) return refuse(NO_SUCH);
      if (value < 0 || value > MOST_VALUE) return refuse(OUT_OF_BOUNDS);
      Copy c = world.copies[copy];
      int before = c.value;
      if (before == value) return refuse(NOT_SO);
      c.value = value;
      c.changed = true;
      return before;
    }

    private int dropCopy(int copy) {
      if (!world.isCopy(copy)) return refuse(NO_SUCH);
      world.copies[copy].there = false;
      return world.copies[copy].version;
    }

    private int tellRegister(int core, int value) {
      if (!world.isCore(core)) return refuse(NO_SUCH);
      if (value < 0 || value > MOST_VALUE) return refuse(OUT_OF_BOUNDS);
      Core c = world.cores[core];
      int before = c.register;
      if (c.room != NONE || before == value) return refuse(NOT_SO);
      c.register = value;
      return before;
    }
  }

  private static int measureWithAdd(int measure, int address, int kind, int rights) {
    return 31 * measure + 64 * address + 8 * kind + rights;
  }

  private static int measureWithExtend(int measure, int value) {
    return 31 * measure + 1000 + value;
  }

  /** A SCRIPT: of each STEP its sort and five numbers, NONE where it has fewer. */
  private static final class Script {
    int length = 0;
    private final int[] cells = new int[MOST_STEPS * STEP_CELLS];

    void begin() {
      length = 0;
    }

    void take(Script other) {
      length = other.length;
      System.arraycopy(other.cells, 0, cells, 0, MOST_STEPS * STEP_CELLS);
    }

    boolean hasStep(int i) {
      return i >= 0 && i < length && i < MOST_STEPS;
    }

    int told(int i, int what) {
      if (!hasStep(i) || what < 0 || what >= STEP_CELLS) return NONE;
      return cells[i * STEP_CELLS + what];
    }

    void open(int sort) {
      if (length < 0 || length >= MOST_STEPS) return;
      length++;
      for (int i = 0; i < STEP_CELLS; i++) write(i, NONE);
      write(0, sort);
    }

    /** A cell of the latest STEP. */
    void write(int what, int number) {
      if (!hasStep(length - 1) || what < 0 || what >= STEP_CELLS) return;
      cells[(length - 1) * STEP_CELLS + what] = number;
    }

    int paperMeasure() {
      int first = firstCreate();
      if (first == NONE) return HIDDEN;
      int measure = 7 + told(first, 1);
      for (int i = first + 1; i < length; i++) {
        int sort = told(i, 0);
        if (sort == ADD) measure = measureWithAdd(measure, told(i, 2), told(i, 3), told(i, 4));
        if (sort == EXTEND) measure = measureWithExtend(measure, valueAhead(first, i));
      }
      return measure;
    }

    private int firstCreate() {
      for (int i = 0; i < length; i++) {
        if (told(i, 0) == CREATE) return i;
      }
      return NONE;
    }

    /** VALUE of the latest add between two STEPS that is of the ADDRESS of the second one. */
    private int valueAhead(int from, int extend) {
      for (int i = extend - 1; i > from; i--) {
        if (told(i, 0) == ADD && told(i, 2) == told(extend, 2)) return told(i, 5);
      }
      return 0;
    }
  }

  /** The TAPE; what it told, read as a TEXT, stands in rules or script until the next reading. */
  private static final class Tape {
    int length = 0;
    private final int[] bytes = new int[MOST_BYTES];
    private int at = 0;
    final int[] rules = new int[RULES];
    private final boolean[] told = new boolean[RULES];
    final Script script = new Script();

    void append(int number) {
      for (int shift = 24; shift >= 0; shift -= 8) {
        int one = (number >>> shift) & 255;
        if (one != 0 && length >= 0 && length < MOST_BYTES) {
          bytes[length] = one;
          length++;
        }
      }
    }

    /** Where the first part begins that can't be, or NONE. */
    int faultAs(int sort) {
      begin();
      for (int parts = 1; parts <= MOST_BYTES; parts++) {
        int fault = sort == MACHINE ? readClause() : readStep();
        if (fault != NONE) return fault;
        skipBlanks();
        if (at >= length) return NONE;
        if (!stands(';') || (sort == SCRIPT && parts >= MOST_STEPS)) return at;
        at++;
      }
      return length;
    }

    private void begin() {
      at = 0;
      script.begin();
      for (int i = 0; i < RULES; i++) {
        rules[i] = RULE_WITHOUT[i];
        told[i] = false;
      }
    }

    private int readClause() {
      skipBlanks();
      int wordAt = at;
      skipLetters();
      int which = ruleOf(wordAt);
      if (which < 0 || which >= RULES || told[which]) return wordAt;
      skipBlanks();
      int numberAt = at;
      int number = readNumber();
      if (number < RULE_LEAST[which] || number > RULE_MOST[which]) return numberAt;
      rules[which] = number;
      told[which] = true;
      return NONE;
    }

    private int readStep() {
      skipBlanks();
      int wordAt = at;
      skipLetters();
      int sort = stepOf(wordAt);
      if (sort < 0 || sort >= STEP_SORTS) return wordAt;
      script.open(sort);
      for (int i = 1; i <= STEP_NUMBERS[sort]; i++) {
        skipBlanks();
        if (i > 1) {
          if (!stands(',')) return at;
          at++;
          skipBlanks();
        }
        int numberAt = at;
        int number = readNumber();
        if (number < 0 || number > MOST_VALUE) return numberAt;
        script.write(i, number);
      }
      return NONE;
    }

    private boolean stands(int asked) {
      return at >= 0 && at < length && at < MOST_BYTES && bytes[at] == asked;
    }

    private void skipBlanks() {
      while (at < length && stands(' ')) at++;
    }

    private void skipLetters() {
      while (at >= 0 && at < length && at < MOST_BYTES && bytes[at] >= 'a' && bytes[at] <= 'z') at++;
    }

    /** The number that stands here, or NONE where none does; beyond all bounds it only stays beyond them. */
    private int readNumber() {
      int number = NONE;
      while (at >= 0 && at < length && at < MOST_BYTES && bytes[at] >= '0' && bytes[at] <= '9') {
        int digit = bytes[at] - '0';
        if (number == NONE) number = digit;
        else if (number <= MOST_VALUE) number = number * 10 + digit;
        at++;
      }
      return number;
    }

    private int ruleOf(int wordAt) {
      for (int i = 0; i < RULES; i++) {
        if (isWord(wordAt, ruleWord(i))) return i;
      }
      return NONE;
    }

    private int stepOf(int wordAt) {
      for (int i = 0; i < STEP_SORTS; i++) {
        if (isWord(wordAt, stepWord(i))) return i;
      }
      return NONE;
    }

    /** Whether the letters from there up to here are this word. */
    private boolean isWord(int wordAt, String word) {
      if (wordAt < 0 || at > MOST_BYTES || at - wordAt != word.length()) return false;
      for (int i = 0; i < word.length(); i++) {
        if (bytes[wordAt + i] != word.charAt(i)) return false;
      }
      return true;
    }

    private static String ruleWord(int which) {
      switch (which) {
        case 0: return "pages";
        case 1: return "cores";
        case 2: return "hold";
        default: return "key";
      }
    }

    private static String stepWord(int sort) {
      switch (sort) {
        case CREATE: return "create";
        case MAKE_SLOTS: return "slots";
        case ADD: return "add";
        case EXTEND: return "extend";
        case SEAL: return "seal";
        case ENTER: return "enter";
        case LEAVE: return "leave";
        case TRAP: return "trap";
        case RESUME: return "resume";
        case TOUCH: return "touch";
        case BLOCK: return "block";
        case TRACK: return "track";
        case EVICT: return "evict";
        case LOAD: return "load";
        case REMOVE: return "remove";
        default: return "map";
      }
    }
  }
}
