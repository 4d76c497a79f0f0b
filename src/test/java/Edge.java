/**
 * The edges of one promise. Each case has objects of its own, made anew, so that none is asked more than the 512 calls
 * that the document promises; what a case says of itself are the document's words.
 */
final class Edge {
  interface Make {
    ClosedRooms make();
  }

  interface Call {
    int on(ClosedRooms x);
  }

  static final int N = Check.N;
  static final int H = Check.H;
  /** Numbers that nothing has: far below, just below, far above; each case adds the first one beyond itself. */
  static final int[] FAR = {Check.MIN, H, -2, N, 1000, Check.MAX};

  static final Make NEW = ClosedRooms::new;
  static final Make HOUSE = Check::house;
  static final Make WITH_COPY = Check::houseWithCopy;
  /** The house as it was built: ROOM 0 is not SEALED. */
  static final Make SITE = Edge::site;
  /** The house, CORE 0 inside by the ENTRY at ADDRESS 0 (PAGE 2). */
  static final Make INSIDE = after(HOUSE, x -> x.enter(0, 0, 0));
  /** The house with ROOM 1 (SIZE 2), AWAY: its ROOT is COPY 0, VERSION 1 in SLOT 3 of PAGE 1. */
  static final Make AWAY = after(HOUSE, x -> x.create(2), x -> x.evict(5, 1, 3));

  private final Check check;
  private final String promise;

  Edge(Check check, String promise) {
    this.check = check;
    this.promise = "promise " + promise;
  }

  private static ClosedRooms site() {
    ClosedRooms x = Check.machine("pages 8;cores 3;hold 2;key 7");
    x.create(4);
    x.slots();
    x.add(0, 0, 1, 4, 11);
    x.add(0, 1, 0, 3, 50);
    x.add(0, 2, 0, 7, 60);
    return x;
  }

  static Make machine(String text) {
    return () -> Check.machine(text);
  }

  static Make script(Make make, String... texts) {
    return () -> {
      ClosedRooms x = make.make();
      for (String text : texts) mustNotBe(Check.text(x, 1, text) == N, text);
      return x;
    };
  }

  /** As it is behind these calls, none of which is to be refused by a STATUS. */
  static Make after(Make make, Call... calls) {
    return () -> {
      ClosedRooms x = make.make();
      int was = Check.status(x);
      for (int i = 0; i < calls.length; i++) calls[i].on(x);
      mustNotBe(Check.status(x) != was, "a call ahead of a case was refused");
      return x;
    };
  }

  /** As it is behind a call that may be refused. */
  static ClosedRooms make(Make make, Call call) {
    ClosedRooms x = make.make();
    call.on(x);
    return x;
  }

  static Call times(int n, Call call) {
    return x -> {
      for (int i = 0; i < n; i++) call.on(x);
      return 0;
    };
  }

  private static void mustNotBe(boolean is, String what) {
    if (is) throw new IllegalStateException(what);
  }

  void is(String sentence, long got, long due) {
    check.is(promise + ": " + sentence, got, due);
  }

  void is(String sentence, boolean got, boolean due) {
    check.is(promise + ": " + sentence, got, due);
  }

  /** An ACT that is refused: it answers this, is counted by this STATUS alone, and changes nothing else. */
  void refused(String sentence, Make make, Call call, int answer, int status) {
    String before = Dump.whole(make.make());
    ClosedRooms x = make.make();
    int[] was = statusOf(x);
    is(sentence, call.on(x), answer);
    for (int i = 0; i < 5; i++) is(sentence + ", status(" + i + ")", x.status(i), i == status ? was[i] + 1 : was[i]);
    is(sentence + ", changes nothing but STATUS", Dump.whole(x).equals(before), true);
  }

  /** An ACT that is done: it answers this, no STATUS counts it, the LOG tells it, it can be UNDONE, and then all is as it was. */
  void done(String sentence, Make make, Call call, int answer, int sort, int first) {
    String before = Dump.whole(make.make());
    ClosedRooms x = make.make();
    int[] was = statusOf(x);
    int undoable = x.count(4);
    int length = x.count(3);
    is(sentence, call.on(x), answer);
    is(sentence + ", LOG: how long", x.count(3), length < 60 ? length + 1 : 60);
    is(sentence + ", LOG: sort", x.log(0, 0), sort);
    is(sentence + ", LOG: first number", x.log(0, 1), first);
    is(sentence + ", LOG: answer", x.log(0, 2), answer);
    is(sentence + ", can be UNDONE", x.count(4), undoable < 40 ? undoable + 1 : 40);
    is(sentence + ", undo()", x.undo(), undoable < 40 ? undoable : 39);
    for (int i = 0; i < 5; i++) is(sentence + ", status(" + i + ")", x.status(i), was[i]);
    if (undoable < 40) is(sentence + ", UNDONE", Dump.whole(x).equals(before), true);
  }

  /** A call that is no ACT, or is refused without STATUS: it answers this and changes nothing. */
  void same(String sentence, Make make, Call call, int answer) {
    String before = Dump.whole(make.make());
    ClosedRooms x = make.make();
    int[] was = statusOf(x);
    is(sentence, call.on(x), answer);
    for (int i = 0; i < 5; i++) is(sentence + ", status(" + i + ")", x.status(i), was[i]);
    is(sentence + ", changes nothing", Dump.whole(x).equals(before), true);
  }

  /** What a look answers, on an object of its own. */
  void looks(String sentence, Make make, Call call, int answer) {
    is(sentence, call.on(make.make()), answer);
  }

  private static int[] statusOf(ClosedRooms x) {
    int[] all = new int[5];
    for (int i = 0; i < 5; i++) all[i] = x.status(i);
    return all;
  }
}
