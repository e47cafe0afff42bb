import java.util.ArrayList;
import java.util.List;

/**
 * Each refused call: what it answers, and that nothing has changed behind it. Two objects are made
 * by the same calls, one of them is asked what it must refuse, and then all that both answer, undo,
 * bring back and lay must be alike. Questions, too, must change nothing.
 */
public final class RefusalTest {
  private static final int BAD = -1, NO = -2, FULL = -3, NONE = -4;
  private static final int LOWEST = Integer.MIN_VALUE, HIGHEST = Integer.MAX_VALUE;
  private static final String ROW = "h0,0;h0,0;h0,0;w0,1,5;w1,2,5;";
  /** Calls that an object may be used for. */
  private static final int MOST_CALLS = 512;
  private static int wrong = 0;
  private static int checked = 0;
  private static int calls = 0;

  private interface Setting {
    void on(BellSchool x);
  }

  private interface Call {
    long on(BellSchool x);
  }

  public static void main(String[] args) {
    badHomesAndChildren();
    badNumbers();
    badAheadOfTheOthers();
    no();
    full();
    none();
    questions();
    System.out.println("refusals: " + checked + " calls, " + wrong + " not as due");
    if (wrong != 0) {
      System.exit(1);
    }
  }

  // ---- what things stand as

  private static void spell(BellSchool x, String text) {
    for (int i = 0; i < text.length(); i++) {
      x.write(text.charAt(i));
    }
    calls += text.length();
  }

  private static void lay(BellSchool x, String text) {
    x.wipe();
    spell(x, text);
    x.lay();
    calls += 2;
  }

  /** Something of everything: a day, a child kept back, a sick one, a way shut, something seen, kept, written. */
  private static void inTheMiddle(BellSchool x) {
    lay(x, ROW + "s0,1,4,5;");
    x.pass(1);
    x.keep();
    x.sick(1);
    x.shut(0, 1);
    x.see(1, 2);
    x.keepBack(2);
    x.wipe();
    spell(x, "h0,1;h0,2;w0,1,3;b1;");
    calls += 7;
  }

  private static void fullOfLetters(BellSchool x) {
    lay(x, ROW);
    x.keepBack(1);
    x.wipe();
    calls += 2;
    spell(x, "h0,1;".repeat(7) + "n1;".repeat(55));
  }

  private static void fullOfSeen(BellSchool x) {
    inTheMiddle(x);
    for (int t = 2; t <= 6; t++) {
      x.see(2, t);
      calls++;
    }
  }

  private static void fullOfKept(BellSchool x) {
    inTheMiddle(x);
    x.keep();
    x.pass(1);
    calls += 2;
  }

  private static void nobodyComes(BellSchool x) {
    inTheMiddle(x);
    x.sick(0);
    x.sick(2);
    calls += 2;
  }

  // ---- all that can be asked

  private static List<Long> portrait(BellSchool x) {
    List<Long> all = new ArrayList<>();
    standing(x, all);
    answers(x, all);
    while (note(all, x.undo()) >= 0) {
      standing(x, all);
    }
    while (note(all, x.back()) >= 0) {
      standing(x, all);
    }
    note(all, x.fog());
    note(all, x.lay());
    standing(x, all);
    return all;
  }

  private static long note(List<Long> all, long answer) {
    all.add(answer);
    calls++;
    return answer;
  }

  private static void standing(BellSchool x, List<Long> all) {
    for (int what = 0; what <= 10; what++) {
      note(all, x.count(what));
    }
    for (int h = 0; h < 3; h++) {
      for (int what = 3; what <= 6; what++) {
        note(all, x.home(h, what));
      }
    }
    note(all, x.way(0, 1, 1));
    note(all, x.way(1, 2, 1));
  }

  private static void answers(BellSchool x, List<Long> all) {
    note(all, x.fault());
    note(all, x.fog());
    note(all, x.tripped());
    note(all, x.last());
    note(all, x.again());
    note(all, x.always());
    note(all, x.never());
    note(all, x.far(0, 2));
    for (int i = 0; i < 3; i++) {
      note(all, x.home(i, 0) * 100 + x.home(i, 1));
      note(all, x.comes(i));
      note(all, x.behind(i + 1));
      note(all, x.each(i));
      note(all, x.measles(i, 2, 3, 0));
      note(all, x.year(i, 9, 0));
      calls++;
    }
  }

  // ---- twins

  private static void refused(String what, long want, Setting setting, Call call) {
    calls = 0;
    BellSchool asked = new BellSchool();
    setting.on(asked);
    long got = call.on(asked);
    calls++;
    List<Long> afterwards = portrait(asked);
    if (calls > MOST_CALLS) {
      tell(what + ": too many calls: " + calls);
    }
    BellSchool twin = new BellSchool();
    setting.on(twin);
    List<Long> untouched = portrait(twin);
    checked++;
    if (got != want) {
      tell(what + " answered " + got + ", due is " + want);
    }
    if (!afterwards.equals(untouched)) {
      tell(what + " changed " + untouched + " to " + afterwards);
    }
  }

  private static void tell(String what) {
    wrong++;
    System.out.println(what);
  }

  private static void bad(String what, Call call) {
    refused(what, BAD, RefusalTest::inTheMiddle, call);
  }

  // ---- BAD

  private static void badHomesAndChildren() {
    for (int h : new int[] {LOWEST, -33, -1, 3, 4, 6, 7, 31, 32, 64, HIGHEST}) {
      bad("comes(" + h + ")", x -> x.comes(h));
      bad("keepBack(" + h + ")", x -> x.keepBack(h));
      bad("sick(" + h + ")", x -> x.sick(h));
      bad("see(" + h + ", 1)", x -> x.see(h, 1));
      bad("see(" + h + ", 28)", x -> x.see(h, 28));
      bad("measles(" + h + ", 0, 0, 0)", x -> x.measles(h, 0, 0, 0));
      bad("measles(" + h + ", 2, 10, 1)", x -> x.measles(h, 2, 10, 1));
      for (int what = 0; what <= 6; what++) {
        int w = what;
        bad("home(" + h + ", " + what + ")", x -> x.home(h, w));
      }
      for (int other = 0; other <= 2; other++) {
        int o = other;
        bad("far(" + h + ", " + o + ")", x -> x.far(h, o));
        bad("far(" + o + ", " + h + ")", x -> x.far(o, h));
        bad("shut(" + h + ", " + o + ")", x -> x.shut(h, o));
        bad("shut(" + o + ", " + h + ")", x -> x.shut(o, h));
        bad("way(" + h + ", " + o + ", 0)", x -> x.way(h, o, 0));
        bad("way(" + o + ", " + h + ", 1)", x -> x.way(o, h, 1));
      }
      bad("far(" + h + ", " + h + ")", x -> x.far(h, h));
      bad("shut(" + h + ", " + h + ")", x -> x.shut(h, h));
      bad("way(" + h + ", " + h + ", 0)", x -> x.way(h, h, 0));
    }
    for (int h = 0; h <= 2; h++) {
      int same = h;
      bad("alike, shut(" + h + ", " + h + ")", x -> x.shut(same, same));
      bad("alike, way(" + h + ", " + h + ", 0)", x -> x.way(same, same, 0));
      bad("alike, way(" + h + ", " + h + ", 1)", x -> x.way(same, same, 1));
    }
  }

  private static void badNumbers() {
    for (int n : new int[] {LOWEST, -1, 0, 10, 31, 127, 128, 200, 256 + 'h', 65536 + 'h', HIGHEST}) {
      bad("write(" + n + ")", x -> x.write(n));
    }
    for (int n : new int[] {LOWEST, -28, -1, 0, 29, 56, HIGHEST}) {
      bad("pass(" + n + ")", x -> x.pass(n));
      bad("see(0, " + n + ")", x -> x.see(0, n));
      bad("see(2, " + n + ")", x -> x.see(2, n));
    }
    for (int n : new int[] {LOWEST, -1, 61, HIGHEST}) {
      bad("behind(" + n + ")", x -> x.behind(n));
      bad("year(0, " + n + ", 0)", x -> x.year(0, n, 0));
    }
    bad("year(0, 0, 0)", x -> x.year(0, 0, 0));
    for (int n : new int[] {LOWEST, -1, 29, HIGHEST}) {
      bad("each(" + n + ")", x -> x.each(n));
    }
    for (int n : new int[] {LOWEST, -1, 7, HIGHEST}) {
      bad("home(0, " + n + ")", x -> x.home(0, n));
    }
    for (int n : new int[] {LOWEST, -1, 2, HIGHEST}) {
      bad("way(0, 1, " + n + ")", x -> x.way(0, 1, n));
      bad("measles(0, 0, 0, " + n + ")", x -> x.measles(0, 0, 0, n));
      bad("year(0, 1, " + n + ")", x -> x.year(0, 1, n));
    }
    for (int n : new int[] {LOWEST, -1, 3, HIGHEST}) {
      bad("measles(0, " + n + ", 0, 0)", x -> x.measles(0, n, 0, 0));
    }
    for (int n : new int[] {LOWEST, -1, 11, HIGHEST}) {
      bad("measles(0, 0, " + n + ", 0)", x -> x.measles(0, 0, n, 0));
      bad("count(" + n + ")", x -> x.count(n));
    }
    for (int n : new int[] {LOWEST, -1, 10000, HIGHEST}) {
      bad("year(" + n + ", 1, 0)", x -> x.year(n, 1, 0));
    }
  }

  private static void badAheadOfTheOthers() {
    for (int n : new int[] {31, 127, -1}) {
      refused("write(" + n + ") at the full", BAD, RefusalTest::fullOfLetters, x -> x.write(n));
    }
    refused("see(3, 1) at the full", BAD, RefusalTest::fullOfSeen, x -> x.see(3, 1));
    refused("see(-1, 28) at the full", BAD, RefusalTest::fullOfSeen, x -> x.see(-1, 28));
    refused("see(0, 0) at the full", BAD, RefusalTest::fullOfSeen, x -> x.see(0, 0));
    refused("see(0, 29) at the full", BAD, RefusalTest::fullOfSeen, x -> x.see(0, 29));
    bad("shut(2, 3), where NO way can be", x -> x.shut(2, 3));
    bad("shut(2, 2), where NO way can be", x -> x.shut(2, 2));
    bad("way(0, 2, 2), where there is NONE", x -> x.way(0, 2, 2));
    bad("way(0, 2, -1), where there is NONE", x -> x.way(0, 2, -1));
    bad("far(3, 3), to itself were it there", x -> x.far(3, 3));
    refused("comes(3), where nobody does", BAD, RefusalTest::nobodyComes, x -> x.comes(3));
    refused("each(29), where there is none", BAD, RefusalTest::nobodyComes, x -> x.each(29));
    refused("each(-1), where there is none", BAD, RefusalTest::nobodyComes, x -> x.each(-1));
  }

  // ---- NO, FULL, NONE

  private static void no() {
    refused("shut(0, 2)", NO, RefusalTest::inTheMiddle, x -> x.shut(0, 2));
    refused("shut(2, 0)", NO, RefusalTest::inTheMiddle, x -> x.shut(2, 0));
    Setting[] nothingDone = {
      x -> { },
      x -> lay(x, ROW),
      x -> {
        inTheMiddle(x);
        x.back();
        calls++;
      },
      x -> {
        inTheMiddle(x);
        x.lay();
        calls++;
      },
      x -> {
        lay(x, ROW);
        x.pass(3);
        x.undo();
        calls += 2;
      }};
    for (Setting setting : nothingDone) {
      refused("undo() of nothing", NO, setting, BellSchool::undo);
      refused("back() to nothing", NO, setting, BellSchool::back);
    }
    refused("back() to what was kept ahead of laying", NO, x -> {
      inTheMiddle(x);
      x.lay();
      x.pass(1);
      calls += 2;
    }, BellSchool::back);
    for (String text : new String[] {"", "n5;", "b0;", "b1;h0,0;", "h0,0;b6;", "h0,0;h0,0;b1;b2;", "x", "h0,0;x", "h0,0",
        "h4,0;", "h0,41;", "h0,0;w0,0,5;", "h0,0;h0,0;w0,1,61;", "h0,0;h0,0;s0,1,5,4;", "h0,0;n0;", "h0,0;b7;",
        "h0,0;".repeat(8), "h0,0;h0,0;h0,0;w0,1,5;w0,2,9;b1;n7;s0,1,0,27;;"}) {
      refused("lay() of '" + text + "'", NO, x -> {
        inTheMiddle(x);
        x.wipe();
        calls++;
        spell(x, text);
      }, BellSchool::lay);
    }
  }

  private static void full() {
    refused("write('h') at the full", FULL, RefusalTest::fullOfLetters, x -> x.write('h'));
    refused("write(32) at the full", FULL, RefusalTest::fullOfLetters, x -> x.write(32));
    refused("write(126) at the full", FULL, RefusalTest::fullOfLetters, x -> x.write(126));
    refused("see(0, 1) at the full", FULL, RefusalTest::fullOfSeen, x -> x.see(0, 1));
    refused("see(1, 2), seen already, at the full", FULL, RefusalTest::fullOfSeen, x -> x.see(1, 2));
    refused("keep() at the full", FULL, RefusalTest::fullOfKept, BellSchool::keep);
  }

  private static void none() {
    refused("fault() of a good text", NONE, RefusalTest::inTheMiddle, BellSchool::fault);
    refused("fault() of no text", NONE, x -> { }, BellSchool::fault);
    refused("way(0, 2, 0)", NONE, RefusalTest::inTheMiddle, x -> x.way(0, 2, 0));
    refused("way(2, 0, 1)", NONE, RefusalTest::inTheMiddle, x -> x.way(2, 0, 1));
    refused("far(0, 1), SHUT", NONE, RefusalTest::inTheMiddle, x -> x.far(0, 1));
    refused("comes(1), SICK", NONE, RefusalTest::inTheMiddle, x -> x.comes(1));
    refused("comes(0), cut off", NONE, RefusalTest::inTheMiddle, x -> x.comes(0));
    refused("last()", NONE, RefusalTest::nobodyComes, BellSchool::last);
    refused("again()", NONE, x -> {
      inTheMiddle(x);
      x.shut(0, 1);
      x.sick(2);
      x.keepBack(2);
      x.sick(1);
      calls += 4;
    }, BellSchool::again);
    refused("each(0)", NONE, RefusalTest::nobodyComes, x -> x.each(0));
    refused("each(1)", NONE, RefusalTest::nobodyComes, x -> x.each(1));
    refused("each(28), not so many", NONE, x -> lay(x, ROW), x -> x.each(28));
    refused("each(1), nobody", NONE, x -> lay(x, ROW), x -> x.each(1));
  }

  // ---- questions

  private static void questions() {
    Call[] questions = {BellSchool::fault, x -> x.home(2, 6), x -> x.way(0, 1, 1), x -> x.far(0, 2), x -> x.comes(2),
        BellSchool::last, x -> x.behind(60), BellSchool::again, x -> x.each(0), x -> x.each(28), BellSchool::always,
        BellSchool::never, BellSchool::fog, BellSchool::tripped, x -> x.measles(2, 2, 3, 0), x -> x.year(9999, 60, 0),
        x -> x.year(9999, 60, 1), x -> x.count(6)};
    Setting[] settings = {RefusalTest::inTheMiddle, RefusalTest::fullOfSeen, RefusalTest::fullOfKept,
        RefusalTest::nobodyComes, x -> lay(x, ROW), x -> { }};
    for (Setting setting : settings) {
      for (Call question : questions) {
        BellSchool once = new BellSchool();
        setting.on(once);
        refused("a question", question.on(once), setting, question);
      }
    }
  }
}
