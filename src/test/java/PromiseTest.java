/**
 * Each promise of the document by answers reckoned by hand: ordinary calls, the edges that the
 * document names, and wrong numbers. The number of a test is the number of its promise.
 */
public final class PromiseTest {
  private static final int BAD = -1, NO = -2, FULL = -3, NONE = -4;
  /** Three homes in a row, five minutes from each to the next; children on time. */
  private static final String ROW = "h0,0;h0,0;h0,0;w0,1,5;w1,2,5;";
  private static int wrong = 0;
  private static int checked = 0;
  private static int promise = 0;

  public static void main(String[] args) {
    newObject();
    write();
    wipe();
    fault();
    lay();
    home();
    way();
    far();
    comes();
    comesByKind();
    last();
    pass();
    keepBack();
    sick();
    shut();
    undo();
    behind();
    again();
    each();
    eachRows();
    always();
    never();
    see();
    forget();
    fog();
    tripped();
    measles();
    year();
    keep();
    back();
    count();
    constants();
    System.out.println("promises: " + checked + " answers, " + wrong + " not as due");
    if (wrong != 0) {
      System.exit(1);
    }
  }

  private static void due(String call, long got, long want) {
    checked++;
    if (got != want) {
      wrong++;
      System.out.println("promise " + promise + ": " + call + " answered " + got + ", due is " + want);
    }
  }

  private static void spell(BellSchool x, String text) {
    for (int i = 0; i < text.length(); i++) {
      x.write(text.charAt(i));
    }
  }

  private static BellSchool laid(String text) {
    BellSchool x = new BellSchool();
    spell(x, text);
    due("lay of " + text, x.lay() > 0 ? 1 : 0, 1);
    return x;
  }

  private static void dueCounts(BellSchool x, long... want) {
    for (int what = 0; what < want.length; what++) {
      due("count " + what, x.count(what), want[what]);
    }
  }

  private static void newObject() {
    promise = 1;
    BellSchool x = new BellSchool();
    dueCounts(x, 6, 7, 0, 0, 0, 0, 0, 0, 0, 0, 0);
    int[] kinds = {0, 1, 2, 0, 3, 0};
    int[] lates = {5, 10, 8, 20, 0, 12};
    for (int h = 0; h < 6; h++) {
      due("kind " + h, x.home(h, 0), kinds[h]);
      due("late " + h, x.home(h, 1), lates[h]);
      due("bell " + h, x.home(h, 2), h == 0 ? 1 : 0);
      due("had " + h, x.home(h, 3), h == 0 ? 1 : 0);
    }
    int[][] ways = {{0, 1, 10}, {1, 2, 15}, {2, 3, 20}, {3, 4, 10}, {4, 0, 25}, {4, 5, 8}, {2, 5, 30}};
    for (int[] w : ways) {
      due("way", x.way(w[0], w[1], 0), w[2]);
    }
    // Limit 55: child 3 comes by 35 minutes; were the way 4-3 shut it would be 45, still in reach.
    due("comes(3)", x.comes(3), 55);
    due("fault()", x.fault(), NONE);
    due("lay() of no text", x.lay(), NO);
    // Snow on 0-1 on days 3 to 9, on 4-5 on days 5 and 6.
    x.pass(3);
    due("way(0, 1, 1) on day 3", x.way(0, 1, 1), 0);
    due("way(4, 5, 1) on day 3", x.way(4, 5, 1), 1);
    x.pass(2);
    due("way(4, 5, 1) on day 5", x.way(4, 5, 1), 0);
    x.pass(2);
    due("way(4, 5, 1) on day 7", x.way(4, 5, 1), 1);
    x.pass(3);
    due("way(0, 1, 1) on day 10", x.way(0, 1, 1), 1);
  }

  private static void write() {
    promise = 2;
    BellSchool x = new BellSchool();
    due("write(32)", x.write(32), 1);
    due("write(126)", x.write(126), 2);
    due("write(31)", x.write(31), BAD);
    due("write(127)", x.write(127), BAD);
    due("write(-1)", x.write(-1), BAD);
    due("write(65536 + 65)", x.write(65536 + 65), BAD);
    due("write(lowest)", x.write(Integer.MIN_VALUE), BAD);
    due("count(10)", x.count(10), 2);
    for (int i = 3; i <= 200; i++) {
      due("write", x.write('a'), i);
    }
    due("write a 201st", x.write('a'), FULL);
    due("write a 201st that is bad", x.write(200), BAD);
    due("count(10)", x.count(10), 200);
  }

  private static void wipe() {
    promise = 3;
    BellSchool x = new BellSchool();
    due("wipe() of nothing", x.wipe(), 0);
    spell(x, "h0,1;");
    due("wipe()", x.wipe(), 5);
    due("count(10)", x.count(10), 0);
    due("wipe() again", x.wipe(), 0);
    due("write behind wipe", x.write('h'), 1);
    due("what is laid stays", x.count(0), 6);
  }

  private static void dueFault(String text, int want) {
    BellSchool x = new BellSchool();
    spell(x, text);
    due("fault of '" + text + "'", x.fault(), want);
  }

  private static void fault() {
    promise = 4;
    String two = "h0,0;h0,0;";
    String seven = "h0,0;h1,0;h2,0;h3,0;h0,0;h0,0;h0,0;";
    for (String good : new String[] {"", "h0,0;", "h3,40;", "h00,00;", "b6;", "b0;", "n1;", "n99;", "b06;n07;",
        two + "w0,1,1;", two + "w1,0,60;", two + "s0,1,0,0;", two + "s1,0,27,27;", two + "s0,1,0,27;", seven,
        "b6;" + two + "b1;b0;n9;n8;w0,1,5;w1,0,6;s0,1,2,3;s1,0,4,5;h3,3;w2,0,9;"}) {
      dueFault(good, NONE);
    }
    for (String bad : new String[] {"h", "h0", "h0,", "h0,0", "h4,0;", "h0,41;", "h0;", "h0,0,0;", "h000,0;",
        "h0,000;", "h,0;", "h0,;", "h 0,0;", "h0, 0;", "H0,0;", "x0;", ";", " ", ",", "b7;", "b;", "b0,0;",
        "b100;", "b-1;", "n0;", "n00;", "n100;", "n;", "w0,1,5;", "s0,1,2,3;", "h0.0;", "hh0,0;", "0,0;", "h0,0,;"}) {
      dueFault(bad, 0);
      dueFault("n5;" + bad, 3);
      dueFault("n5;" + bad + "h0,0;x", 3);
    }
    for (String bad : new String[] {"w0,0,5;", "w0,2,5;", "w2,0,5;", "w0,1,0;", "w0,1,61;", "w0,1;", "w0,1,5,5;",
        "s0,0,1,2;", "s0,2,1,2;", "s0,1,0,28;", "s0,1,3,2;", "s0,1,28,28;", "s0,1,1;", "s0,1,1,2,3;", "b8;"}) {
      dueFault(two + bad, 10);
      dueFault(two + "w1,0,5;" + bad + "h9,9;", 17);
    }
    dueFault(seven + "h0,0;", 35);
    dueFault("h0,0;w0,1,5;h0,0;", 5);
    dueFault("h0,0;;h0,0;", 5);
    dueFault("h0,0;h0,0", 5);
    BellSchool x = new BellSchool();
    spell(x, "h0,0;x");
    due("fault()", x.fault(), 5);
    due("the valley is not touched", x.count(0), 6);
    due("the text is not touched", x.count(10), 6);
  }

  private static void lay() {
    promise = 5;
    BellSchool x = new BellSchool();
    x.pass(1);
    x.keepBack(1);
    x.sick(2);
    x.shut(0, 1);
    x.see(1, 1);
    x.keep();
    for (String bad : new String[] {"", "n5;", "b0;", "h0,0;x", "h0,0;b1;", "h0,0;h0,0;b0;b6;", "w0,1,5;"}) {
      x.wipe();
      spell(x, bad);
      due("lay of '" + bad + "'", x.lay(), NO);
      dueCounts(x, 6, 7, 1, 1, 3, 1, 6, 1, 4, 1, bad.length());
      due("still kept back", x.home(1, 6), 1);
    }
    x.wipe();
    String text = "b6;h1,2;b1;h2,3;w0,1,7;n4;w1,0,9;s1,0,1,2;s0,1,3,4;n20;";
    spell(x, text);
    due("lay()", x.lay(), 2);
    dueCounts(x, 2, 1, 0, 0, 1, 0, 0, 0, 0, 0, text.length());
    due("kept back no more", x.home(1, 6), 0);
    due("the last minutes", x.way(0, 1, 0), 9);
    due("the last limit", x.comes(0), 20);
    due("had", x.home(0, 3), 0);
    due("had at first", x.home(1, 3), 1);
    due("undo()", x.undo(), NO);
    due("back()", x.back(), NO);
    x.pass(1);
    due("the last snow", x.way(0, 1, 1), 1);
    x.pass(2);
    due("the last snow", x.way(0, 1, 1), 0);
    due("lay() again", x.lay(), 2);
    dueCounts(x, 2, 1, 0, 0, 1, 0, 0, 0, 0, 0, text.length());
    BellSchool far = laid("h0,0;h0,0;h0,0;w0,1,60;w1,2,1;");
    due("60 without n", far.comes(1), 60);
    due("61 is too far", far.comes(2), NONE);
    due("0 without b", far.count(4), 0);
    due("seven homes", laid("h0,0;h0,0;h0,0;h0,0;h0,0;h0,0;h0,0;b6;").count(0), 7);
    due("snow without a way", laid("h0,0;h0,0;s0,1,0,27;").way(0, 1, 0), NONE);
    BellSchool anew = laid("h0,0;h0,0;b1;n4;w0,1,5;");
    anew.lay();
    anew.wipe();
    spell(anew, "h0,0;h0,0;w0,1,60;");
    due("lay() of another", anew.lay(), 2);
    due("without b, though there was one ahead", anew.count(4), 0);
    due("without n, though there was one ahead", anew.comes(1), 60);
    due("snow ahead of its way", laid("h0,0;h0,0;s0,1,0,27;w0,1,5;").way(0, 1, 1), 0);
  }

  private static void home() {
    promise = 6;
    BellSchool x = laid("h1,2;h3,40;w0,1,9;b1;");
    due("home(0, 0)", x.home(0, 0), 1);
    due("home(0, 1)", x.home(0, 1), 2);
    due("home(1, 0)", x.home(1, 0), 3);
    due("home(1, 1)", x.home(1, 1), 40);
    due("home(0, 2)", x.home(0, 2), 0);
    due("home(1, 2)", x.home(1, 2), 1);
    due("home(0, 3)", x.home(0, 3), 0);
    x.sick(1);
    due("home(1, 5)", x.home(1, 5), 1);
    due("home(0, 5)", x.home(0, 5), 0);
    x.keepBack(0);
    due("home(0, 6)", x.home(0, 6), 1);
    due("home(1, 6)", x.home(1, 6), 0);
    x.pass(3);
    due("home(0, 2)", x.home(0, 2), 1);
    due("home(0, 3)", x.home(0, 3), 1);
    due("home(1, 3)", x.home(1, 3), 1);
    due("home(0, 4)", x.home(0, 4), 2);
    due("home(1, 4)", x.home(1, 4), 1);
    due("home(0, 6)", x.home(0, 6), 0);
    due("home(1, 5)", x.home(1, 5), 1);
    due("home(2, 0)", x.home(2, 0), BAD);
    due("home(-1, 0)", x.home(-1, 0), BAD);
    due("home(0, 7)", x.home(0, 7), BAD);
    due("home(0, -1)", x.home(0, -1), BAD);
    due("home(lowest, highest)", x.home(Integer.MIN_VALUE, Integer.MAX_VALUE), BAD);
  }

  private static void way() {
    promise = 7;
    BellSchool x = laid("h0,0;h0,0;h0,0;w1,0,5;w2,1,60;s0,1,1,2;");
    due("way(0, 1, 0)", x.way(0, 1, 0), 5);
    due("way(1, 0, 0)", x.way(1, 0, 0), 5);
    due("way(1, 2, 0)", x.way(1, 2, 0), 60);
    due("way(0, 2, 0)", x.way(0, 2, 0), NONE);
    due("way(0, 2, 1)", x.way(0, 2, 1), NONE);
    due("way(0, 1, 1)", x.way(0, 1, 1), 1);
    due("way(0, 2, 2)", x.way(0, 2, 2), BAD);
    due("way(0, 1, -1)", x.way(0, 1, -1), BAD);
    due("way(1, 1, 0)", x.way(1, 1, 0), BAD);
    due("way(3, 0, 0)", x.way(3, 0, 0), BAD);
    due("way(0, 3, 0)", x.way(0, 3, 0), BAD);
    due("way(-1, 0, 0)", x.way(-1, 0, 0), BAD);
    x.pass(1);
    due("way(1, 0, 1) in snow", x.way(1, 0, 1), 0);
    due("way(1, 0, 0) in snow", x.way(1, 0, 0), 5);
    x.pass(2);
    due("way(1, 0, 1) behind snow", x.way(1, 0, 1), 1);
    x.shut(0, 1);
    due("way(1, 0, 1) shut", x.way(1, 0, 1), 0);
    x.shut(1, 0);
    x.pass(25);
    due("way(0, 1, 1) on day 28", x.way(0, 1, 1), 1);
    x.pass(1);
    due("way(0, 1, 1) on day 29", x.way(0, 1, 1), 0);
  }

  private static void far() {
    promise = 8;
    BellSchool x = laid("h1,9;h2,9;h3,9;h0,0;w0,1,5;w1,2,5;w0,2,11;s0,1,1,1;n4;");
    due("far(0, 0)", x.far(0, 0), 0);
    due("far(0, 2)", x.far(0, 2), 10);
    due("far(2, 0)", x.far(2, 0), 10);
    due("far(0, 3)", x.far(0, 3), NONE);
    due("far(3, 3)", x.far(3, 3), 0);
    due("far(4, 0)", x.far(4, 0), BAD);
    due("far(0, 4)", x.far(0, 4), BAD);
    due("far(-1, 0)", x.far(-1, 0), BAD);
    due("far(4, 4)", x.far(4, 4), BAD);
    x.shut(1, 2);
    due("far(0, 2) with 1-2 shut", x.far(0, 2), 11);
    due("far(1, 2) with 1-2 shut", x.far(1, 2), 16);
    x.undo();
    due("far(1, 2) undone", x.far(1, 2), 5);
    x.pass(1);
    due("far(0, 1) in snow", x.far(0, 1), 16);
    due("far(0, 2) in snow", x.far(0, 2), 11);
    BellSchool chain = laid("h0,0;h0,0;h0,0;h0,0;h0,0;h0,0;h0,0;w6,0,9;w0,5,9;w5,1,9;w1,4,9;w4,2,9;w2,3,9;");
    due("far(6, 3)", chain.far(6, 3), 54);
    due("far(3, 6)", chain.far(3, 6), 54);
  }

  private static void comes() {
    promise = 9;
    BellSchool x = laid("h0,7;h0,4;h0,0;w0,1,10;n10;");
    due("comes(0) at its own", x.comes(0), 0);
    due("comes(1)", x.comes(1), 14);
    due("comes(2) by no way", x.comes(2), NONE);
    due("comes(3)", x.comes(3), BAD);
    due("comes(-1)", x.comes(-1), BAD);
    x.keepBack(0);
    due("comes(0) kept back", x.comes(0), 20);
    x.keepBack(1);
    due("comes(1) kept back", x.comes(1), 34);
    x.sick(1);
    due("comes(1) sick", x.comes(1), NONE);
    x.sick(1);
    x.shut(0, 1);
    due("comes(1) with the way shut", x.comes(1), NONE);
    due("comes(1) one minute too far", laid("h0,0;h0,0;w0,1,10;n9;").comes(1), NONE);
    due("comes(1) in snow", laid("h0,0;h0,0;w0,1,10;s0,1,0,0;").comes(1), NONE);
  }

  private static void comesByKind() {
    promise = 9;
    BellSchool x = laid("h0,0;h1,3;h2,3;h3,3;w0,1,31;w0,2,31;w0,3,31;n31;");
    due("LAME, though twice is over the limit", x.comes(1), 65);
    due("POOR: 62 by 3, cut", x.comes(2), 23);
    due("SLEEPER", x.comes(3), 49);
    due("POOR, too far though two thirds would not be", laid("h0,0;h2,0;w0,1,31;n30;").comes(1), NONE);
    BellSchool own = laid("h3,40;h1,40;w0,1,1;");
    due("SLEEPER at its own", own.comes(0), 0);
    own.pass(1);
    due("LAME at its own", own.comes(1), 0);
    due("one minute for the POOR", laid("h0,0;h2,0;w0,1,1;").comes(1), 0);
    due("two minutes for the POOR", laid("h0,0;h2,0;w0,1,2;").comes(1), 1);
  }

  private static void last() {
    promise = 10;
    BellSchool x = laid(ROW);
    due("last()", x.last(), 2);
    x.keepBack(1);
    due("last() with 1 kept back", x.last(), 1);
    x.keepBack(2);
    due("last() with both kept back", x.last(), 2);
    BellSchool alike = laid("h0,5;h0,5;h0,0;w0,1,5;w0,2,10;");
    due("of several the highest", alike.last(), 2);
    alike.sick(2);
    due("last() with 2 sick", alike.last(), 1);
    alike.sick(1);
    due("only its own child", alike.last(), 0);
    alike.sick(0);
    due("nobody comes", alike.last(), NONE);
    due("all at 0", laid("h0,0;h2,0;w0,1,1;").last(), 1);
  }

  private static void pass() {
    promise = 11;
    BellSchool x = laid(ROW);
    due("pass(0)", x.pass(0), BAD);
    due("pass(29)", x.pass(29), BAD);
    due("pass(-1)", x.pass(-1), BAD);
    due("bad days do not go by", x.count(3), 0);
    due("pass(1)", x.pass(1), 2);
    due("day", x.count(3), 1);
    due("pass(2)", x.pass(2), 2);
    due("pass(28)", x.pass(28), 2);
    due("day", x.count(3), 31);
    due("soups", x.count(6), 93);
    x.pass(1);
    x.keepBack(0);
    x.pass(1);
    due("kept back from its own, and last", x.count(4), 0);
    due("kept back for that day alone", x.home(0, 6), 0);
    BellSchool sick = laid(ROW);
    sick.sick(0);
    sick.sick(1);
    sick.sick(2);
    due("it stays", sick.pass(5), 0);
    due("no soups", sick.count(6), 0);
    due("days all the same", sick.count(3), 5);
    due("sick still", sick.count(5), 3);
    BellSchool snow = laid("h0,0;h0,0;w0,1,5;s0,1,1,3;");
    due("over to 1", snow.pass(1), 1);
    due("held by snow", snow.pass(3), 1);
    due("soups of the one", snow.home(1, 4), 3);
    due("back to 0", snow.pass(1), 0);
  }

  private static void keepBack() {
    promise = 12;
    BellSchool x = laid(ROW);
    due("keepBack(1)", x.keepBack(1), 1);
    due("keepBack(2)", x.keepBack(2), 1);
    due("keepBack(1) again", x.keepBack(1), 0);
    due("home(2, 6)", x.home(2, 6), 1);
    due("keepBack(3)", x.keepBack(3), BAD);
    due("keepBack(-1)", x.keepBack(-1), BAD);
    due("keepBack(33)", x.keepBack(33), BAD);
    due("nothing more to be undone by bad ones", x.count(8), 3);
    x.sick(0);
    due("a sick one too", x.keepBack(0), 1);
    x.pass(1);
    due("home(2, 6) behind a day", x.home(2, 6), 0);
    due("keepBack(2) behind a day", x.keepBack(2), 1);
  }

  private static void sick() {
    promise = 13;
    BellSchool x = laid(ROW);
    due("sick(2)", x.sick(2), 1);
    due("last()", x.last(), 1);
    x.pass(3);
    due("sick behind days", x.home(2, 5), 1);
    due("sick(2) again", x.sick(2), 0);
    due("sick(3)", x.sick(3), BAD);
    due("sick(-1)", x.sick(-1), BAD);
    due("sick(32)", x.sick(32), BAD);
    due("count(8)", x.count(8), 3);
  }

  private static void shut() {
    promise = 14;
    BellSchool x = laid(ROW);
    due("shut(1, 0)", x.shut(1, 0), 1);
    due("shut(1, 2)", x.shut(1, 2), 1);
    due("count(2)", x.count(2), 2);
    due("shut(0, 1)", x.shut(0, 1), 0);
    due("count(2)", x.count(2), 1);
    due("shut(0, 2)", x.shut(0, 2), NO);
    due("shut(0, 0)", x.shut(0, 0), BAD);
    due("shut(0, 3)", x.shut(0, 3), BAD);
    due("shut(3, 0)", x.shut(3, 0), BAD);
    due("shut(-1, 0)", x.shut(-1, 0), BAD);
    due("count(8)", x.count(8), 3);
    x.pass(28);
    due("shut behind days", x.way(1, 2, 1), 0);
    BellSchool most = laid("h0,0;h0,0;h0,0;h0,0;h0,0;h0,0;h0,0;w5,6,5;w0,6,5;s5,6,0,9;");
    due("shut(6, 5), in snow", most.shut(6, 5), 1);
    due("shut(6, 0)", most.shut(6, 0), 1);
    due("shut(5, 6)", most.shut(5, 6), 0);
  }

  private static void undo() {
    promise = 15;
    BellSchool x = laid(ROW);
    due("undo() of nothing", x.undo(), NO);
    x.keepBack(1);
    x.sick(2);
    x.shut(0, 1);
    x.pass(3);
    dueCounts(x, 3, 2, 1, 3, 0, 1, 3, 0, 4, 0);
    due("undo() of three days", x.undo(), 3);
    dueCounts(x, 3, 2, 1, 0, 0, 1, 0, 0, 3, 0);
    due("kept back again", x.home(1, 6), 1);
    due("undo() of shutting", x.undo(), 2);
    due("count(2)", x.count(2), 0);
    due("undo() of sickness", x.undo(), 1);
    due("count(5)", x.count(5), 0);
    due("undo() of keeping", x.undo(), 0);
    due("home(1, 6)", x.home(1, 6), 0);
    due("undo() of no more", x.undo(), NO);
    for (int i = 1; i <= 9; i++) {
      x.pass(1);
      due("can be undone", x.count(8), Math.min(i, 8));
    }
    for (int i = 7; i >= 0; i--) {
      due("undo()", x.undo(), i);
      due("day", x.count(3), i + 1);
    }
    due("the ninth cannot be", x.undo(), NO);
    due("it is had again as it was", x.home(0, 3) + x.home(1, 3) + x.home(2, 3), 2);
    x.see(1, 5);
    x.keep();
    x.pass(1);
    x.undo();
    due("seen stays", x.count(7), 1);
    due("kept stays", x.count(9), 1);
  }

  private static void behind() {
    promise = 16;
    BellSchool x = laid("h0,0;h0,0;h0,0;w0,1,5;w1,2,5;s1,2,2,4;");
    int[] row = {0, 2, 0, 1, 0, 1, 2, 0, 2};
    for (int n = 0; n < row.length; n++) {
      due("behind " + n, x.behind(n), row[n]);
    }
    due("behind(60)", x.behind(60), 0);
    due("behind(61)", x.behind(61), BAD);
    due("behind(-1)", x.behind(-1), BAD);
    x.keepBack(1);
    due("behind(1) with 1 kept back", x.behind(1), 1);
    due("still kept back", x.home(1, 6), 1);
    dueCounts(x, 3, 2, 0, 0, 0, 0, 0, 0, 1, 0);
    due("not had by looking", x.home(2, 3), 0);
  }

  private static void again() {
    promise = 17;
    due("to and fro", laid(ROW).again(), 2);
    due("alone", laid("h0,0;").again(), 1);
    BellSchool one = laid("h0,0;h0,20;w0,1,5;");
    due("1 goes back as 0 comes from there", one.again(), 2);
    BellSchool snow = laid("h0,0;h0,0;w0,1,5;s0,1,1,27;");
    due("over on day 0, back on day 28", snow.again(), 29);
    snow.pass(1);
    due("in the snow it stays", snow.again(), 1);
    // Over 0-1 on day 0, over 1-2 on day 27, over 2-0 on day 55.
    String round = "h0,9;h0,0;h0,0;w0,1,5;w1,2,5;w0,2,5;s0,1,1,27;s1,2,0,26;s0,2,0,26;n9;";
    due("behind 56 days", laid(round).again(), 56);
    BellSchool none = laid("h0,0;h1,40;h1,39;w0,1,5;w0,2,5;w1,2,50;");
    due("two beyond keep it", none.again(), NONE);
    BellSchool x = laid(ROW);
    x.keepBack(0);
    due("kept back, it stays", x.again(), 1);
    x.keepBack(0);
    x.sick(0);
    due("0 is sick and never last", x.again(), NONE);
  }

  private static void each() {
    promise = 18;
    BellSchool x = laid(ROW);
    due("each(0)", x.each(0), 2);
    due("each(1)", x.each(1), NONE);
    due("each(2)", x.each(2), 1);
    due("each(3)", x.each(3), NONE);
    due("each(28)", x.each(28), NONE);
    due("each(29)", x.each(29), BAD);
    due("each(-1)", x.each(-1), BAD);
    x.keepBack(1);
    due("who is kept back now is not", x.each(0), 2);
    due("each(1)", x.each(1), NONE);
    x.pass(1);
    due("1 has had it", x.home(1, 3), 1);
    due("each(0)", x.each(0), 1);
    due("each(1)", x.each(1), NONE);
    x.keepBack(2);
    x.pass(1);
    due("all have had it", x.each(0), 0);
    due("none on a first", x.each(1), NONE);
    due("each(29)", x.each(29), BAD);
    BellSchool cut = laid("h0,0;h0,0;");
    due("no way", cut.each(0), NONE);
    due("no way, on the first", cut.each(1), NONE);
    due("no way, a bad one", cut.each(29), BAD);
    due("alone", laid("h0,0;").each(0), 0);
    BellSchool held = laid(ROW);
    held.keepBack(0);
    due("who is kept back now is not, asked first", held.each(0), 2);
    due("each(1)", held.each(1), NONE);
    due("each(2)", held.each(2), 1);
    BellSchool home = laid("h0,0;h0,0;w0,1,5;b1;");
    due("over to 0", home.each(0), 1);
    due("by nobody", home.each(1), NONE);
    // From 0 nobody comes later than 2, though 1 comes as late if kept back: 2 is the highest.
    BellSchool high = laid("h0,0;h0,0;h0,20;w0,1,5;w0,2,5;n5;");
    due("1 as late as 2", high.each(0), NONE);
    high.wipe();
    spell(high, "h0,0;h0,20;h0,0;w0,1,5;w0,2,5;n5;");
    high.lay();
    due("2 as late as 1", high.each(0), 3);
    due("nobody on the first", high.each(1), NONE);
    due("nobody on the second", high.each(2), NONE);
    due("2 on the third", high.each(3), 2);
    high.sick(2);
    due("2 is sick", high.each(0), NONE);
    high.pass(1);
    high.sick(2);
    due("at 1, which has had it", high.each(0), 2);
  }

  private static void eachRows() {
    promise = 18;
    BellSchool snow = laid("h0,0;h0,0;w0,1,5;s0,1,0,26;");
    due("28 days are enough", snow.each(0), 28);
    due("each(28)", snow.each(28), NONE);
    BellSchool long1 = laid("h0,0;h0,0;w0,1,5;s0,1,0,27;");
    due("never free", long1.each(0), NONE);
    // 6 is last at 0, 5 is last at 6; 6 is last at each other one, so that 1 to 4 must be kept back.
    BellSchool star = laid("h0,0;h0,0;h0,0;h0,0;h0,0;h0,0;h0,0;w0,1,5;w0,2,5;w0,3,5;w0,4,5;w0,5,5;w0,6,5;");
    due("star", star.each(0), 6);
    int[] row = {NONE, NONE, 1, 2, 3, 4};
    for (int k = 1; k <= row.length; k++) {
      due("star " + k, star.each(k), row[k - 1]);
    }
    star.sick(3);
    due("a sick child's home cannot have it", star.each(0), NONE);
    star.sick(3);
    due("well again", star.each(0), 6);
    star.shut(0, 6);
    due("6 is cut off", star.each(0), NONE);
    star.undo();
    due("and is not", star.each(0), 6);
    star.pass(1);
    due("a day on", star.each(0), 5);
    star.undo();
    due("a day back", star.each(0), 6);
  }

  private static void always() {
    promise = 19;
    BellSchool x = laid("h0,0;h0,0;h0,0;w0,1,5;w1,2,5;");
    due("always()", x.always(), 0);
    x.keepBack(2);
    due("2 kept back", x.always(), 4);
    x.keepBack(2);
    x.keepBack(0);
    due("0 kept back", x.always(), 1);
    x.sick(0);
    due("0 sick", x.always(), 0);
    x.pass(1);
    due("1 or 2", x.always(), 0);
    x.sick(1);
    due("2 alone, at each home that it can reach", x.always(), 4);
    x.sick(2);
    due("nobody", x.always(), 0);
    due("a child alone", laid("h0,0;").always(), 1);
    BellSchool beyond = laid("h0,0;h0,0;h0,0;w0,1,5;w1,2,5;n5;");
    beyond.keepBack(2);
    due("2 comes to 1 and 2, but not to 0", beyond.always(), 0);
    due("not at the home cut off", laid("h0,0;h0,0;h0,0;w0,1,5;").always(), 0);
  }

  private static void never() {
    promise = 20;
    BellSchool x = laid(ROW);
    due("never()", x.never(), 2);
    x.keepBack(1);
    due("with 1 kept back: 1, then 2, 0, 2 ..", x.never(), 0);
    due("alone", laid("h0,0;").never(), 0);
    due("cut off", laid("h0,0;h0,0;h0,0;b1;").never(), 5);
    due("behind 57 days", laid("h0,0;h0,0;h0,0;h0,0;w0,1,5;w1,2,5;w2,3,5;s0,1,0,26;s1,2,0,26;n5;").never(), 8);
    due("behind 56 days", laid("h0,0;h0,0;h0,0;w0,1,5;w1,2,5;s0,1,0,26;s1,2,0,26;n9;").never(), 0);
    BellSchool now = laid("h0,0;h0,0;w0,1,5;");
    now.sick(0);
    due("where it is now counts", now.never(), 0);
    BellSchool snow = laid("h0,0;h0,0;h0,0;w0,1,5;s0,1,0,26;");
    due("behind 28 days", snow.never(), 4);
    snow.sick(1);
    due("1 is sick", snow.never(), 6);
  }

  private static void see() {
    promise = 21;
    BellSchool x = laid(ROW);
    due("see(3, 1)", x.see(3, 1), BAD);
    due("see(-1, 1)", x.see(-1, 1), BAD);
    due("see(0, 0)", x.see(0, 0), BAD);
    due("see(0, 29)", x.see(0, 29), BAD);
    for (int i = 1; i <= 6; i++) {
      due("see", x.see(0, i == 1 ? 28 : 2), i);
    }
    due("a seventh", x.see(0, 1), FULL);
    due("a bad seventh", x.see(0, 29), BAD);
    due("count(7)", x.count(7), 6);
    due("not to be undone", x.undo(), NO);
  }

  private static void forget() {
    promise = 22;
    BellSchool x = laid(ROW);
    due("forget() of nothing", x.forget(), 0);
    x.see(1, 1);
    x.see(0, 1);
    due("fog()", x.fog(), 0);
    due("forget()", x.forget(), 2);
    due("count(7)", x.count(7), 0);
    due("fog()", x.fog(), 7);
    due("see() behind it", x.see(1, 1), 1);
  }

  private static void fog() {
    promise = 23;
    BellSchool x = laid(ROW);
    due("fog() of nothing", x.fog(), 7);
    x.see(2, 1);
    due("2 is last at 0 and at 1", x.fog(), 3);
    x.see(0, 2);
    due("then 0", x.fog(), 3);
    x.see(2, 27);
    due("2 behind 27 days", x.fog(), 3);
    x.see(2, 28);
    due("not so behind 28", x.fog(), 0);
    x.forget();
    x.see(0, 1);
    due("from 2 alone", x.fog(), 4);
    x.keepBack(0);
    due("0 kept back: from each", x.fog(), 7);
    x.pass(1);
    due("from 2 alone, a day on", x.fog(), 4);
    x.see(1, 1);
    due("not at two at one time", x.fog(), 0);
    dueCounts(x, 3, 2, 0, 1, 0, 0, 3, 2, 2, 0);
    BellSchool snow = laid("h0,0;h0,0;w0,1,5;s0,1,0,0;");
    snow.see(0, 1);
    due("today's snow", snow.fog(), 1);
    snow.pass(1);
    due("now is as it stands when that is asked", snow.fog(), 2);
  }

  private static void tripped() {
    promise = 24;
    BellSchool x = laid(ROW);
    due("tripped() of nothing", x.tripped(), 7 + 128);
    x.see(2, 1);
    due("2 as it is", x.tripped(), 4 + 128);
    x.forget();
    x.see(1, 1);
    due("1 was", x.tripped(), 2);
    x.keepBack(2);
    due("besides 2, who is kept back: nobody", x.tripped(), 0);
    x.forget();
    x.see(2, 1);
    due("2 is kept back: whoever is besides", x.tripped(), 7 + 128);
    x.keepBack(2);
    x.see(1, 2);
    due("not to be had", x.tripped(), 0);
    x.forget();
    x.see(1, 1);
    x.see(2, 2);
    x.see(0, 28);
    due("1 was, then 2, 0, 2 .. 2", x.tripped(), 0);
    x.forget();
    x.see(2, 28);
    due("0 or 1 was: a day later all the way", x.tripped(), 3);
    due("nobody is by asking", x.home(1, 6), 0);
  }

  private static void dueChance(BellSchool x, int h, int n, int tenths, long above, long below) {
    due("measles(" + h + ", " + n + ", " + tenths + ", 0)", x.measles(h, n, tenths, 0), above);
    due("measles(" + h + ", " + n + ", " + tenths + ", 1)", x.measles(h, n, tenths, 1), below);
  }

  private static void measles() {
    promise = 25;
    BellSchool x = laid("h0,0;h0,0;w0,1,5;");
    dueChance(x, 0, 0, 5, 1, 1);
    dueChance(x, 1, 0, 5, 0, 1);
    dueChance(x, 1, 1, 5, 1, 2);
    dueChance(x, 0, 1, 5, 1, 2);
    dueChance(x, 1, 1, 0, 1, 1);
    dueChance(x, 1, 1, 10, 0, 1);
    dueChance(x, 0, 2, 10, 1, 1);
    dueChance(x, 1, 1, 3, 7, 10);
    // Over to 1 and there to stay, or not over and then over: 7/10 x 3/10 + 3/10 x 7/10.
    dueChance(x, 1, 2, 3, 21, 50);
    dueChance(x, 0, 2, 3, 29, 50);
    x.keepBack(0);
    dueChance(x, 0, 1, 3, 79, 100);
    // Kept back on the first day alone.
    dueChance(x, 0, 2, 3, 48, 125);
    x.keepBack(0);
    x.sick(1);
    dueChance(x, 1, 2, 3, 0, 1);
    dueChance(x, 0, 2, 3, 1, 1);
    int[][] bad = {{2, 0, 0, 0}, {-1, 0, 0, 0}, {0, -1, 0, 0}, {0, 3, 0, 0}, {0, 0, -1, 0}, {0, 0, 11, 0},
        {0, 0, 0, -1}, {0, 0, 0, 2}};
    for (int[] b : bad) {
      due("bad measles", x.measles(b[0], b[1], b[2], b[3]), BAD);
    }
    BellSchool snow = laid("h0,0;h0,0;w0,1,5;s0,1,0,0;");
    dueChance(snow, 1, 1, 3, 0, 1);
    dueChance(snow, 1, 2, 3, 7, 10);
    BellSchool star = laid("h0,0;h0,0;h0,0;h0,0;h0,0;h0,0;h0,0;w0,1,1;w0,2,2;w0,3,3;w0,4,4;w0,5,5;w0,6,6;");
    dueChance(star, 6, 1, 9, 1, 10);
    dueChance(star, 1, 1, 9, 59049, 1000000);
    dueChance(star, 0, 1, 9, 531441, 1000000);
  }

  /** By the words of the document, on ROW alone, where day follows day by two comparisons. */
  private static void year() {
    promise = 26;
    BellSchool x = laid(ROW);
    due("z = 0, k = 0: draw 0 keeps 0 back at its own", x.year(0, 1, 0), 0);
    // k = 1: x = 6152, its square 37847104 leaves 41487 over, by 2 is 20743; by 8 is 2592, even; 20743 = 3 x 6914 + 1.
    due("z = 0, k = 1: 1 is kept back", x.year(0, 2, 0), 1);
    // k = 2: x = 12303, its square 151363809 leaves 10299 over, by 2 is 5149; by 8 is 643, odd: nobody. At 1: 2 is last.
    due("z = 0, k = 2: nobody is", x.year(0, 3, 0), 2);
    due("soups", x.year(0, 3, 1), 9);
    due("soups of 60 days", x.year(9999, 60, 1), 180);
    // z = 1: x = 7920, its square 62726400 leaves 22803 over, by 2 is 11401; by 8 is 1425, odd: nobody.
    due("z = 1: nobody", x.year(1, 1, 0), 2);
    // z = 9999: x = 79182082, its square leaves 51303 over, by 2 is 25651; by 8 is 3206, even; 25651 = 3 x 8550 + 1.
    due("z = 9999: 1 is kept back", x.year(9999, 1, 0), 1);
    // Reckoned by another program: years of 1, 2, 3, 4, 5, 6, 7, 10, 31, 59 and 60 days.
    int[] days = {1, 2, 3, 4, 5, 6, 7, 10, 31, 59, 60};
    int[] zs = {2, 3, 17, 500, 1234, 9998};
    int[][] where = {{0, 2, 0, 1, 0, 2, 0, 1, 2, 1, 2},
        {2, 2, 0, 0, 2, 0, 1, 2, 2, 1, 2},
        {2, 1, 0, 2, 0, 2, 0, 2, 2, 2, 0},
        {2, 0, 2, 2, 0, 2, 1, 2, 1, 2, 0},
        {0, 2, 0, 1, 1, 1, 2, 2, 2, 0, 2},
        {2, 0, 2, 0, 0, 1, 2, 1, 2, 2, 0}};
    for (int i = 0; i < zs.length; i++) {
      for (int j = 0; j < days.length; j++) {
        due("year(" + zs[i] + ", " + days[j] + ", 0)", x.year(zs[i], days[j], 0), where[i][j]);
      }
    }
    x.keepBack(1);
    due("besides who is kept back now", x.year(0, 1, 0), 1);
    due("z = 1, 1 is kept back now", x.year(1, 1, 0), 1);
    dueCounts(x, 3, 2, 0, 0, 0, 0, 0, 0, 1, 0);
    due("kept back still", x.home(1, 6), 1);
    int[][] bad = {{-1, 1, 0}, {10000, 1, 0}, {0, 0, 0}, {0, 61, 0}, {0, 1, -1}, {0, 1, 2}};
    for (int[] b : bad) {
      due("bad year", x.year(b[0], b[1], b[2]), BAD);
    }
    x.sick(2);
    due("soups with one sick", x.year(0, 60, 1), 120);
    x.pass(5);
    due("only those eaten in it", x.year(0, 1, 1), 2);
  }

  private static void keep() {
    promise = 27;
    BellSchool x = laid(ROW);
    due("keep()", x.keep(), 1);
    due("keep() again", x.keep(), 2);
    due("keep() a third", x.keep(), FULL);
    due("count(9)", x.count(9), 2);
    x.pass(1);
    due("what can be undone stays", x.count(8), 1);
    x.back();
    due("keep() once there is room", x.keep(), 2);
    due("not to be undone", x.undo(), NO);
  }

  private static void back() {
    promise = 28;
    BellSchool x = laid(ROW);
    due("back() to nothing", x.back(), NO);
    x.sick(1);
    x.keepBack(2);
    x.shut(1, 2);
    x.pass(2);
    x.keepBack(0);
    x.keep();
    x.pass(3);
    x.sick(1);
    x.shut(1, 2);
    x.keep();
    x.see(1, 3);
    x.write('h');
    x.pass(4);
    due("back()", x.back(), 1);
    dueCounts(x, 3, 2, 0, 5, 0, 0, 5, 1, 0, 1, 30);
    due("undo() behind it", x.undo(), NO);
    x.pass(1);
    due("back() to the first", x.back(), 0);
    dueCounts(x, 3, 2, 1, 2, 0, 1, 2, 1, 0, 0, 30);
    due("kept back as then", x.home(0, 6), 1);
    due("had as then", x.home(2, 3), 0);
    due("soups as then", x.home(0, 4), 2);
    due("back() no more", x.back(), NO);
    x.pass(1);
    due("undo() goes on", x.undo(), 0);
  }

  private static void count() {
    promise = 29;
    BellSchool x = laid("h0,0;h0,0;h0,0;w0,1,5;w1,2,5;w1,0,6;s0,2,1,2;b1;");
    dueCounts(x, 3, 2, 0, 0, 1, 0, 0, 0, 0, 0, 48);
    x.shut(0, 1);
    x.sick(0);
    x.pass(28);
    x.pass(2);
    x.see(0, 1);
    x.keep();
    x.wipe();
    dueCounts(x, 3, 2, 1, 30, 1, 1, 60, 1, 4, 1, 0);
    due("a way of a minute", laid("h0,0;h0,0;w0,1,1;").count(1), 1);
    due("count(-1)", x.count(-1), BAD);
    due("count(11)", x.count(11), BAD);
    due("count(lowest)", x.count(Integer.MIN_VALUE), BAD);
  }

  private static void constants() {
    promise = 0;
    due("BAD", BellSchool.BAD, -1);
    due("NO", BellSchool.NO, -2);
    due("FULL", BellSchool.FULL, -3);
    due("NONE", BellSchool.NONE, -4);
  }
}
