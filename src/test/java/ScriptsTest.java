/** Promises 49 and 50: RUN and DO of SCRIPTS. */
public final class ScriptsTest {
  private static final Check check = new Check("ScriptsTest");
  private static final int N = Check.N;
  private static final int H = Check.H;
  private static final int[] ODD = {-1, Check.MIN, Check.MAX};

  public static void main(String[] args) {
    promise49Run();
    promise49RunByStatus();
    promise49And50Everything();
    promise50Perform();
    promise50PerformUpTo();
    wrongInputs();
    check.finish();
  }

  private static ClosedRooms withScript(ClosedRooms x, String text) {
    check.is("script " + text, Check.text(x, 1, text), 0);
    return x;
  }

  private static void runIs(ClosedRooms x, String text, int steps, int status) {
    withScript(x, text);
    int log = x.count(3);
    int was = Check.status(x);
    check.is("run(0, 0) of " + text, x.run(0, 0), steps);
    check.is("run(0, 1) of " + text, x.run(0, 1), status);
    check.is("nothing was done", x.count(3), log);
    check.is("STATUS is as it was", Check.status(x), was);
  }

  private static void promise49Run() {
    runIs(Check.machine("pages 4"), "create 1;slots;slots;slots", N, N);
    runIs(Check.machine("pages 4"), "create 1;slots;slots;slots;slots", 4, 3);
    runIs(Check.machine("pages 4"), "create 0", 0, 1);
    runIs(Check.machine("pages 4"), "create 1;create 9;leave 5", 1, 1);
    runIs(Check.machine("pages 4"), "seal 0;create 1", 0, 0);
    runIs(Check.machine("pages 4"), "create 3;seal 0", N, N);
    runIs(Check.machine("pages 4"), "create 3;seal 0;seal 0", 2, 2);
    ClosedRooms x = Check.machine("pages 4");
    runIs(x, "create 1;create 1;slots;evict 0,2,0;load 0,2,0;remove 0", N, N);
    check.is("all FREE still", x.all(0), 15);
    check.is("no SERIALS given", x.all(5), 0);
    x.slots();
    check.is("from as it is now", x.run(0, 0), 3);
    check.is("from as it is now", x.run(0, 1), 0);
  }

  private static void promise49RunByStatus() {
    runIs(Check.house(), "leave 0", 0, 2);
    runIs(Check.house(), "enter 0,0,0;touch 0,1,2", 1, 4);
    runIs(Check.house(), "enter 0,0,0;touch 0,1,1;touch 0,9,1", 2, 1);
    runIs(Check.house(), "enter 0,0,0;trap 0;resume 1,0,0;leave 1;track 0;block 3;track 0;evict 3,1,0;load 0,1,0", N, N);
    runIs(Check.house(), "map 0,0,3;enter 0,0,0", 1, 4);
    runIs(Check.house(), "enter 0,0,0;touch 0,1,0;touch 0,2,0;block 3;touch 0,1,0;leave 0;enter 0,0,0;touch 0,1,0", 7, 4);
    runIs(Check.house(), "map 0,0,9", 0, 1);
    runIs(Check.houseWithCopy(), "load 0,1,0;load 0,1,0", 1, 4);
    runIs(Check.houseWithCopy(), "remove 4;remove 2;remove 0;remove 1", 3, 2);
  }

  private static void promise49And50Everything() {
    String[] texts = {"create 3;slots;add 0,0,1,4,9;add 0,1,0,7,8;extend 0,1;seal 0;enter 0,0,0;touch 0,1,2",
        "trap 0;block 3;track 0;evict 3,1,2;load 0,1,2;resume 1,0,0;touch 1,1,0;leave 1;map 0,2,3;remove 3"};
    int[][] log = {{0, 3, 0}, {1, N, 1}, {2, 0, 2}, {2, 0, 3}, {3, 0, 0}, {4, 0, 1}, {5, 0, 2}, {9, 0, 8}, {7, 0, 2}, {10, 3, 0},
        {11, 0, 1}, {12, 3, 0}, {13, 0, 3}, {8, 1, 8}, {9, 1, 8}, {6, 1, 8}, {15, 0, N}, {14, 3, 2}};
    log[4][2] = 31 * (31 * (31 * 10 + 12) + 71) + 1008;
    ClosedRooms x = Check.machine("pages 5");
    for (int i = 0; i < 2; i++) {
      check.is("script " + texts[i], Check.text(x, 1, texts[i]), i);
      check.is("all can be: " + texts[i], x.run(i, 0), N);
      check.is("perform " + texts[i], x.perform(i), i == 0 ? 8 : 10);
    }
    for (int i = 0; i < log.length; i++) {
      for (int what = 0; what < 3; what++) check.is("LOG of step " + i, x.log(log.length - 1 - i, what), log[i][what]);
    }
    check.is("no STATUS", Check.status(x), 0);
    check.is("as PAPER told", Check.room(x, 0, 3), x.paper(0));
    for (int i = 17; i >= 0; i--) check.is("undo", x.undo(), i);
    check.is("all FREE", x.all(0), 31);
  }

  private static void promise50Perform() {
    ClosedRooms x = withScript(Check.machine("pages 10"), "create 2;slots");
    for (int i = 0; i < 4; i++) check.is("perform", x.perform(0), 2);
    check.is("four ROOMS", x.perform(0), 0);
    check.is("no STATUS", Check.status(x), 0);
    check.is("STEPS are ACTS", x.count(3) * 100 + x.count(4), 808);
    check.is("UNDONE one by one", x.undo(), 7);
    check.is("all(0)", x.all(0), 1023 - 127);
    check.is("an ACT still", x.slots(), 7);
  }

  private static void promise50PerformUpTo() {
    ClosedRooms x = withScript(Check.house(), "enter 0,0,0;touch 0,1,0;touch 0,0,0;leave 0");
    check.is("perform", x.perform(0), 2);
    check.is("inside", x.core(0, 1), 0);
    check.is("no STATUS", Check.status(x), 0);
    check.is("LOG", x.count(3), 8);
    check.is("the latest", x.log(0, 0), 9);
    check.is("perform none", x.perform(0), 0);
    check.is("LOG as it was", x.count(3), 8);
    x = withScript(Check.machine("pages 10"), "slots;slots;slots;slots;slots;slots;slots;slots;slots;slots;slots;slots");
    check.is("ten of twelve", x.perform(0), 10);
  }

  private static void wrongInputs() {
    ClosedRooms x = new ClosedRooms();
    check.is("no SCRIPT, no MACHINE", x.run(0, 0), H);
    check.is("no SCRIPT, no MACHINE", x.perform(0), N);
    withScript(x, "slots");
    check.is("no MACHINE", x.run(0, 0), H);
    check.is("no MACHINE", x.run(0, 1), H);
    check.is("no MACHINE", x.perform(0), N);
    Check.text(x, 0, "pages 3");
    check.is("SCRIPT 1", x.run(1, 0), H);
    check.is("SCRIPT 1", x.perform(1), N);
    check.is("what 2", x.run(0, 2), H);
    for (int odd : ODD) {
      check.is("SCRIPT " + odd, x.run(odd, 0), H);
      check.is("what " + odd, x.run(0, odd), H);
      check.is("SCRIPT " + odd, x.perform(odd), N);
    }
    check.is("nothing was done", x.all(0), 7);
  }
}
