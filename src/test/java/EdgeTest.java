import java.util.ArrayList;
import java.util.List;

/**
 * The bounds that the document names, sentence by sentence: the last value that is told and the
 * first one beyond it, what is empty and what is full, what comes again behind the last day. That
 * a refused call changes nothing is looked up on twins: RefusalTest.
 */
public final class EdgeTest {
  private static final int BAD = -1, NO = -2, FULL = -3, NONE = -4;
  private static final String ONE = "h0,0;";
  private static final String TWO = "h0,0;h0,0;";
  /** At 0 child 2 is last, at 2 child 0, at 1 child 2. */
  private static final String ROW = "h0,0;h0,0;h0,0;w0,1,5;w1,2,5;";
  private static final String SEVEN = "h0,0;h0,0;h0,0;h0,0;h0,0;h0,0;h0,0;";
  /** Child c comes to home 0 at c: last is 6 there, 5 at home 6, and 6 anywhere else. */
  private static final String STAR = SEVEN + "w0,1,1;w0,2,2;w0,3,3;w0,4,4;w0,5,5;w0,6,6;";
  private static int wrong = 0;
  private static int checked = 0;
  private static String sentence = "";

  public static void main(String[] args) {
    newObject();
    lettersOfTheText();
    wiped();
    figures();
    numbersOfItems();
    homesOfWaysAndSnow();
    sevenHomes();
    theLastOneCounts();
    placeOfTheFault();
    fullText();
    laidOrNot();
    home();
    way();
    snowByTheRound();
    far();
    limit();
    byKind();
    lateAndKeptBack();
    last();
    soups();
    daysGoBy();
    keptBackForADay();
    sickAndWell();
    shutAndOpened();
    undone();
    undoneByKind();
    behind();
    again();
    eachBounds();
    eachRows();
    eachIsAskedAnew();
    always();
    never();
    seen();
    fog();
    tripped();
    measlesBounds();
    measlesOnTheRound();
    year();
    kept();
    counted();
    aHomeAlone();
    sevenOnTheLastDay();
    calls512();
    sideBySide();
    System.out.println("edges: " + checked + " answers, " + wrong + " not as due");
    if (wrong != 0) {
      System.exit(1);
    }
  }

  private static void due(String call, long got, long want) {
    checked++;
    if (got != want) {
      wrong++;
      System.out.println(sentence + ": " + call + " answered " + got + ", due is " + want);
    }
  }

  private static void spell(BellSchool x, String text) {
    for (int i = 0; i < text.length(); i++) {
      x.write(text.charAt(i));
    }
  }

  private static BellSchool laid(String text) {
    BellSchool x = new BellSchool();
    spell(x, text);
    due("lay of " + text, x.lay() > 0 ? 1 : 0, 1);
    return x;
  }

  private static void dueFault(String text, int want) {
    BellSchool x = new BellSchool();
    spell(x, text);
    due("fault of '" + text + "'", x.fault(), want);
    due("letters of '" + text + "'", x.count(10), text.length());
  }

  private static void dueCounts(BellSchool x, long... want) {
    for (int what = 0; what < want.length; what++) {
      due("count " + what, x.count(what), want[what]);
    }
  }

  private static void passDays(BellSchool x, int days) {
    for (int left = days; left > 0; left -= Math.min(left, 28)) {
      x.pass(Math.min(left, 28));
    }
  }

  // ---- 1: the text

  private static void newObject() {
    sentence = "1: at first the valley that is told is laid";
    String told = "h0,5;h1,10;h2,8;h0,20;h3,0;h0,12;w0,1,10;w1,2,15;w2,3,20;w3,4,10;w4,0,25;w4,5,8;w2,5,30;"
        + "s0,1,3,9;s4,5,5,6;b0;n55;";
    BellSchool first = new BellSchool();
    BellSchool written = laid(told);
    written.wipe();
    for (int days = 0; days < 30; days++) {
      List<Long> want = view(written);
      List<Long> got = view(first);
      due("all that is asked on day " + days, got.equals(want) ? 1 : 0, 1);
      if (days % 10 == 9) {
        first = new BellSchool();
        written = laid(told);
        written.wipe();
        passDays(first, days);
        passDays(written, days);
      }
      first.pass(1);
      written.pass(1);
    }
    BellSchool empty = new BellSchool();
    due("wipe(): THE TEXT is empty", empty.wipe(), 0);
    due("fault() of no text", empty.fault(), NONE);
    due("lay() of no text", empty.lay(), NO);
    due("undo() of nothing", empty.undo(), NO);
    due("back() to nothing", empty.back(), NO);
    due("forget() of nothing", empty.forget(), 0);
  }

  private static List<Long> view(BellSchool x) {
    List<Long> all = new ArrayList<>();
    for (int what = 0; what <= 10; what++) {
      all.add((long) x.count(what));
    }
    for (int h = 0; h < 6; h++) {
      all.add((long) x.home(h, 0) * 1000 + x.home(h, 1) * 10 + x.home(h, 3));
      all.add((long) x.comes(h));
    }
    all.add((long) x.way(0, 1, 1) * 10 + x.way(4, 5, 1));
    return all;
  }

  private static void lettersOfTheText() {
    sentence = "2: a letter (32 to 126)";
    BellSchool x = new BellSchool();
    due("write(32)", x.write(32), 1);
    due("write(31)", x.write(31), BAD);
    due("write(126)", x.write(126), 2);
    due("write(127)", x.write(127), BAD);
    due("write(-32)", x.write(-32), BAD);
    due("write(256 + 'h')", x.write(256 + 'h'), BAD);
    due("write(65536 + 'h')", x.write(65536 + 'h'), BAD);
    for (int letter = 33; letter < 126; letter++) {
      due("write(" + letter + ")", x.write(letter), letter - 30);
    }
    sentence = "2: 200 letters at most";
    for (int length = 96; length <= 199; length++) {
      due("write the " + length + "th", x.write(' '), length);
    }
    due("write the 200th", x.write('~'), 200);
    due("write the 201st", x.write('~'), FULL);
    due("write the 201st again", x.write(' '), FULL);
    due("BAD ahead of FULL", x.write(31), BAD);
    due("BAD ahead of FULL", x.write(127), BAD);
    due("count(10)", x.count(10), 200);
  }

  private static void wiped() {
    sentence = "3: THE TEXT is empty: how long it was";
    BellSchool x = new BellSchool();
    due("wipe() of nothing", x.wipe(), 0);
    x.write('x');
    due("wipe() of one letter", x.wipe(), 1);
    due("fault() behind it", x.fault(), NONE);
    spell(x, "h0,0;".repeat(40));
    due("write at the full", x.write('h'), FULL);
    due("wipe() of the full", x.wipe(), 200);
    due("count(10)", x.count(10), 0);
    due("wipe() of nothing again", x.wipe(), 0);
    due("write behind it", x.write('h'), 1);
    spell(x, "0,0;");
    due("no letter of the old text comes again", x.lay(), 1);
    due("what is laid stays by wipe", x.wipe() * 10 + x.count(0), 51);
  }

  private static void figures() {
    sentence = "4: numbers (one or two figures) parted by , and a ; behind the last one";
    String[] good = {"h0,0;", "h00,0;", "h0,00;", "h03,40;", "b6;", "b06;", "n9;", "n09;", "n99;"};
    for (String item : good) {
      dueFault(item, NONE);
      dueFault(item + item.substring(0, item.length() - 1), item.length());
      dueFault(item + ";", item.length());
      dueFault(item + " ", item.length());
      dueFault(" " + item, 0);
    }
    String[] bad = {"h,0;", "h0,;", "h000,0;", "h0,000;", "h003,0;", "h0;", "h;", "h0,0,0;", "h0;0;", "h0,0,;",
        "h0 ,0;", "h0,0 ;", "h-1,0;", "h+1,0;", "h0,0:", "h0,/;", "h0,:;", "hh0,0;", "H0,0;", "0,0;", ",", ";",
        "b;", "b000;", "b0,;", "b0,0;", "n;", "n001;", "n1,1;", "x1;", "a1;", "c1;", "g0,0;", "i0,0;", "m1;", "o1;",
        "r0,1,0,0;", "t0,1,0,0;", "v0,1,1;", "x0,1,1;"};
    for (String item : bad) {
      dueFault(item, 0);
      dueFault(TWO + item, 10);
      dueFault("b00;" + item + "h0,0;", 4);
    }
    for (String item : new String[] {"w0,1;", "w0,1,5,5;", "w0,1,005;", "w0,1,;", "w0,1,5", "w0,,1,5;", "w,1,5;",
        "w001,0,5;", "s0,1,2;", "s0,1,2,3,4;", "s0,1,002,3;", "s0,1,2,;", "s0,1,2,3", "s0,1,,3;"}) {
      dueFault(TWO + item, 10);
    }
    dueFault(TWO + "w00,01,05;s01,00,00,09;", NONE);
  }

  /** An item with a # for the number: the lowest and the highest that are told, and those beyond. */
  private static void dueNumber(String item, int low, int high) {
    sentence = "4: " + item + ", " + low + " to " + high;
    for (int n = 0; n <= 99; n++) {
      int want = n < low || n > high ? 10 : NONE;
      dueFault(TWO + item.replace("#", "" + n), want);
      if (n < 10) {
        dueFault(TWO + item.replace("#", "0" + n), want);
      }
    }
    dueFault(TWO + item.replace("#", "100"), 10);
    dueFault(TWO + item.replace("#", "-1"), 10);
  }

  private static void numbersOfItems() {
    dueNumber("h#,0;", 0, 3);
    dueNumber("h0,#;", 0, 40);
    dueNumber("w0,1,#;", 1, 60);
    dueNumber("s0,1,#,27;", 0, 27);
    dueNumber("s0,1,0,#;", 0, 27);
    dueNumber("s0,1,13,#;", 13, 27);
    dueNumber("s0,1,#,13;", 0, 13);
    dueNumber("b#;", 0, 6);
    dueNumber("n#;", 1, 99);
    dueNumber("w0,#,5;", 1, 1);
    dueNumber("w#,0,5;", 1, 1);
    dueNumber("s0,#,0,0;", 1, 1);
    dueNumber("s#,0,0,0;", 1, 1);
  }

  private static void homesOfWaysAndSnow() {
    sentence = "4: homes unlike, both told ahead";
    for (int many = 0; many <= 7; many++) {
      String homes = ONE.repeat(many);
      for (int a = 0; a <= 7; a++) {
        for (int b = 0; b <= 7; b++) {
          int want = a < many && b < many && a != b ? NONE : homes.length();
          dueFault(homes + "w" + a + "," + b + ",5;", want);
          dueFault(homes + "s" + a + "," + b + ",0,0;", want);
        }
      }
    }
    dueFault("h0,0;w0,1,5;h0,0;", 5);
    dueFault("h0,0;s0,1,5,5;h0,0;", 5);
    dueFault("h0,0;h0,0;w0,1,5;h0,0;w2,0,5;", NONE);
  }

  private static void sevenHomes() {
    sentence = "4: 7 homes at most";
    dueFault(SEVEN, NONE);
    dueFault(SEVEN + ONE, 35);
    dueFault(SEVEN + "w5,6,1;n9;" + ONE + "x", 45);
    BellSchool x = laid(SEVEN + "b6;");
    due("count(0)", x.count(0), 7);
    due("the bell at the seventh", x.count(4), 6);
    due("home(6, 2)", x.home(6, 2), 1);
    due("home(7, 2)", x.home(7, 2), BAD);
    spell(x, ONE);
    due("lay() of eight", x.lay(), NO);
    due("home(6, 2) still", x.home(6, 2), 1);
  }

  private static void theLastOneCounts() {
    sentence = "5: the last one of each two";
    due("way told twice", laid(TWO + "w0,1,5;w0,1,9;").way(0, 1, 0), 9);
    due("way told again from the other end", laid(TWO + "w0,1,9;w1,0,5;").way(0, 1, 0), 5);
    due("one way for all that", laid(TWO + "w0,1,9;w1,0,5;w0,1,60;").count(1), 1);
    BellSchool x = laid(TWO + "s1,0,1,2;w0,1,5;s0,1,4,5;w1,0,6;");
    int[] free = {1, 1, 1, 1, 0, 0, 1};
    for (int day = 0; day < free.length; day++) {
      due("snow told twice, day " + day, x.way(0, 1, 1), free[day]);
      x.pass(1);
    }
    sentence = "5: snow, be there a way or not";
    BellSchool none = laid(TWO + "s0,1,0,27;");
    due("way(0, 1, 0)", none.way(0, 1, 0), NONE);
    due("way(0, 1, 1)", none.way(0, 1, 1), NONE);
    due("count(1)", none.count(1), 0);
    due("shut(0, 1)", none.shut(0, 1), NO);
    due("snow ahead of its way", laid(TWO + "s0,1,0,0;w1,0,5;").way(0, 1, 1), 0);
    sentence = "5: bX, of several such the last one counts; 0 without";
    due("none", laid(TWO).count(4), 0);
    due("one", laid(TWO + "b1;").count(4), 1);
    due("b1, b0", laid(TWO + "b1;b0;").count(4), 0);
    due("b6, b1: one that is not there ahead", laid("b6;" + TWO + "b1;").count(4), 1);
    due("b1 ahead of the homes", laid("b1;" + TWO).count(4), 1);
    BellSchool anew = laid(TWO + "w0,1,9;b1;n8;s0,1,0,27;");
    anew.lay();
    anew.wipe();
    spell(anew, TWO + "w0,1,60;");
    due("another text", anew.lay(), 2);
    due("0 without, though the one ahead had b1", anew.count(4), 0);
    due("60 without, though the one ahead had n8 and snow", anew.comes(1), 60);
    sentence = "5: nN, of several such the last one counts; 60 without";
    due("none, way of 60", laid(TWO + "w0,1,60;").comes(1), 60);
    due("n59, way of 60", laid(TWO + "w0,1,60;n59;").comes(1), NONE);
    due("n59, n60", laid(TWO + "w0,1,60;n59;n60;").comes(1), 60);
    due("n60, n59", laid("n60;" + TWO + "n59;w0,1,60;").comes(1), NONE);
    due("none, 61", laid(ONE + TWO + "w0,1,60;w1,2,1;").comes(2), NONE);
    due("none, 60", laid(ONE + TWO + "w0,1,59;w1,2,1;").comes(2), 60);
  }

  private static void placeOfTheFault() {
    sentence = "4: the place of the first letter of the first item that is not so";
    dueFault("", NONE);
    dueFault("x", 0);
    dueFault("h0,0;x", 5);
    dueFault("h0,0;h4,0;h5,0;", 5);
    dueFault("h0,0;h0,0;h0,41;w0,0,5;", 10);
    dueFault("h0,0", 0);
    dueFault("h0,0;h", 5);
    dueFault("h0,0;h1", 5);
    dueFault("h0,0;h1,", 5);
    dueFault("h0,0;h1,1", 5);
    String filled = TWO + "n1;".repeat(62) + "n10";
    dueFault(filled + ";", NONE);
    dueFault(filled + "0", 196);
    dueFault(filled, 196);
    dueFault(filled.substring(0, 196) + "n1;x", 199);
    dueFault(filled.substring(0, 196) + "n1;", NONE);
  }

  private static void fullText() {
    sentence = "5: a text of 200 letters";
    BellSchool x = new BellSchool();
    String text = "n9;".repeat(10) + TWO + "w0,1,10;b1;" + "n8;".repeat(48) + "n10;";
    due("its length", text.length(), 200 - 1);
    spell(x, text);
    due("fault() of 199", x.fault(), NONE);
    due("write the 200th", x.write('n'), 200);
    due("fault() of 200", x.fault(), 199);
    due("lay()", x.lay(), NO);
    x.wipe();
    spell(x, "n09;" + text.substring(3));
    due("count(10)", x.count(10), 200);
    due("fault()", x.fault(), NONE);
    due("write the 201st", x.write('x'), FULL);
    due("fault() behind it", x.fault(), NONE);
    due("lay()", x.lay(), 2);
    due("by the last item", x.comes(0), 10);
    due("the text stays", x.count(10), 200);
  }

  private static void laidOrNot() {
    sentence = "5: a text without fault, of a home at least, the bell at one that there is";
    for (String text : new String[] {"", "n5;", "b0;", "b0;n5;", ONE + "b1;", ONE + "b6;", TWO + "b2;", "b2;" + TWO,
        SEVEN.substring(5) + "b6;", "h0,0", ONE + "x", ONE + ";", "x" + ONE, TWO + "w0,1,0;"}) {
      BellSchool x = new BellSchool();
      spell(x, text);
      due("lay of '" + text + "'", x.lay(), NO);
      dueCounts(x, 6, 7, 0, 0, 0, 0, 0, 0, 0, 0, text.length());
    }
    due("n5 alone is without fault", faultOf("n5;"), NONE);
    due("a bell at none is without fault", faultOf(ONE + "b1;"), NONE);
    for (int many = 1; many <= 7; many++) {
      BellSchool x = new BellSchool();
      spell(x, ONE.repeat(many) + "b" + (many - 1) + ";");
      due("lay of " + many, x.lay(), many);
      dueCounts(x, many, 0, 0, 0, many - 1, 0, 0, 0, 0, 0, many * 5 + 3);
    }
    sentence = "5: day 0, nobody kept back, sick, no way shut, nothing seen, undone, kept; the text stays";
    BellSchool x = laid(ROW);
    x.keep();
    x.keepBack(1);
    x.sick(0);
    x.shut(1, 2);
    x.see(2, 3);
    x.pass(2);
    x.keepBack(2);
    x.keep();
    due("lay()", x.lay(), 3);
    dueCounts(x, 3, 2, 0, 0, 0, 0, 0, 0, 0, 0, 29);
    for (int h = 0; h < 3; h++) {
      due("had " + h, x.home(h, 3), h == 0 ? 1 : 0);
      due("soups " + h, x.home(h, 4), 0);
      due("sick " + h, x.home(h, 5), 0);
      due("kept back " + h, x.home(h, 6), 0);
    }
    due("undo()", x.undo(), NO);
    due("back()", x.back(), NO);
    due("fog() of nothing seen", x.fog(), 7);
  }

  private static int faultOf(String text) {
    BellSchool x = new BellSchool();
    spell(x, text);
    return x.fault();
  }

  // ---- 2: days

  private static void home() {
    sentence = "6: of a home";
    BellSchool x = laid("h0,0;h1,40;h2,1;h3,39;h0,2;h1,3;h2,4;b6;");
    int[] kinds = {0, 1, 2, 3, 0, 1, 2};
    int[] lates = {0, 40, 1, 39, 2, 3, 4};
    for (int h = 0; h < 7; h++) {
      due("kind of " + h, x.home(h, 0), kinds[h]);
      due("late " + h, x.home(h, 1), lates[h]);
      due("bell " + h, x.home(h, 2), h == 6 ? 1 : 0);
      due("had " + h, x.home(h, 3), h == 6 ? 1 : 0);
      due("soups " + h, x.home(h, 4), 0);
      due("sick " + h, x.home(h, 5), 0);
      due("kept back " + h, x.home(h, 6), 0);
      due("seven things " + h, x.home(h, 7), BAD);
      due("no thing " + h, x.home(h, -1), BAD);
    }
    due("home(-1, 0)", x.home(-1, 0), BAD);
    due("home(7, 0)", x.home(7, 0), BAD);
    due("home(6, 0) of six", new BellSchool().home(6, 0), BAD);
    due("home(5, 1) of six", new BellSchool().home(5, 1), 12);
    sentence = "6: had the bell since all was laid (at first, too)";
    BellSchool had = laid(ROW);
    had.pass(1);
    due("had at first", had.home(0, 3), 1);
    due("had now", had.home(2, 3), 1);
    due("not had", had.home(1, 3), 0);
    had.lay();
    due("laid again", had.home(2, 3), 0);
  }

  private static void way() {
    sentence = "7: of a way";
    BellSchool x = laid(SEVEN + "w5,6,60;w0,6,1;");
    due("way(6, 5, 0)", x.way(6, 5, 0), 60);
    due("way(6, 5, 1)", x.way(6, 5, 1), 1);
    due("way(6, 5, 2)", x.way(6, 5, 2), BAD);
    due("way(6, 5, -1)", x.way(6, 5, -1), BAD);
    due("way(0, 6, 0)", x.way(0, 6, 0), 1);
    due("NONE: there is none", x.way(0, 1, 0), NONE);
    due("NONE: there is none", x.way(0, 1, 1), NONE);
    due("BAD ahead of NONE", x.way(0, 1, 2), BAD);
    due("BAD ahead of NONE", x.way(0, 1, -1), BAD);
    for (int h = 0; h < 7; h++) {
      due("alike", x.way(h, h, 0), BAD);
      due("alike", x.way(h, h, 1), BAD);
      due("beyond", x.way(h, 7, 0), BAD);
      due("beyond", x.way(7, h, 1), BAD);
      due("below", x.way(h, -1, 0), BAD);
      due("below", x.way(-1, h, 1), BAD);
    }
    x.shut(5, 6);
    due("SHUT", x.way(5, 6, 1), 0);
    due("minutes of one that is SHUT", x.way(5, 6, 0), 60);
    sentence = "7: ways of each two";
    for (int a = 0; a < 7; a++) {
      for (int b = a + 1; b < 7; b++) {
        BellSchool y = laid(SEVEN + "w" + a + "," + b + ",7;s" + b + "," + a + ",1,1;");
        due("way(" + a + ", " + b + ", 0)", y.way(a, b, 0), 7);
        due("way(" + b + ", " + a + ", 1)", y.way(b, a, 1), 1);
        due("count(1)", y.count(1), 1);
        due("far", y.far(b, a), 7);
        due("shut", y.shut(b, a), 1);
        due("far by a shut way", y.far(a, b), NONE);
        due("opened", y.shut(a, b), 0);
        y.pass(1);
        due("in snow", y.way(a, b, 1), 0);
      }
    }
  }

  private static void snowByTheRound() {
    int[][] snows = {{0, 0}, {27, 27}, {0, 27}, {0, 26}, {1, 27}, {3, 9}, {13, 13}};
    for (int[] s : snows) {
      sentence = "7: under snow on days " + s[0] + " to " + s[1] + ", behind day 27 day 0 comes again";
      BellSchool x = laid(TWO + "w0,1,5;s1,0," + s[0] + "," + s[1] + ";");
      for (int day = 0; day < 86; day++) {
        boolean snow = day % 28 >= s[0] && day % 28 <= s[1];
        due("way on day " + day, x.way(0, 1, 1), snow ? 0 : 1);
        due("minutes on day " + day, x.way(0, 1, 0), 5);
        due("far on day " + day, x.far(0, 1), snow ? NONE : 5);
        due("day", x.count(3), day);
        x.pass(1);
      }
    }
    sentence = "7: behind day 27 day 0 comes again, by many days at one time";
    BellSchool y = laid(TWO + "w0,1,5;s0,1,0,0;");
    due("day 0", y.way(0, 1, 1), 0);
    y.pass(27);
    due("day 27", y.way(0, 1, 1), 1);
    y.pass(1);
    due("day 28", y.way(0, 1, 1), 0);
    y.pass(28);
    due("day 56", y.way(0, 1, 1), 0);
    y.pass(1);
    due("day 57", y.way(0, 1, 1), 1);
    y.undo();
    due("day 56 again", y.way(0, 1, 1), 0);
  }

  private static void far() {
    sentence = "8: far, 0 to itself";
    BellSchool x = laid(STAR + "s0,6,0,0;");
    for (int h = 0; h < 7; h++) {
      due("far(h, h)", x.far(h, h), 0);
      due("far(h, 7)", x.far(h, 7), BAD);
      due("far(7, h)", x.far(7, h), BAD);
      due("far(h, -1)", x.far(h, -1), BAD);
      due("far(-1, h)", x.far(-1, h), BAD);
    }
    due("far(7, 7)", x.far(7, 7), BAD);
    due("far(-1, -1)", x.far(-1, -1), BAD);
    due("far(5, 4)", x.far(5, 4), 9);
    due("NONE: there is no way, in snow", x.far(6, 5), NONE);
    due("to itself, cut off by snow", x.far(6, 6), 0);
    x.pass(1);
    due("far(6, 5) behind the snow", x.far(6, 5), 11);
    x.shut(0, 5);
    due("NONE: by a way SHUT", x.far(6, 5), NONE);
    due("the others as ahead", x.far(6, 4), 10);
    x.shut(5, 0);
    due("opened", x.far(6, 5), 11);
    sentence = "8: the fewest minutes";
    BellSchool longest = laid(SEVEN + "w0,1,60;w1,2,60;w2,3,60;w3,4,60;w4,5,60;w5,6,60;");
    due("six ways of 60", longest.far(0, 6), 360);
    due("back", longest.far(6, 0), 360);
    BellSchool round = laid(ONE + TWO + "w0,1,5;w1,2,5;w0,2,10;");
    due("as far both ways round", round.far(0, 2), 10);
    due("one minute less", laid(ONE + TWO + "w0,1,5;w1,2,5;w0,2,9;").far(0, 2), 9);
    due("one minute more", laid(ONE + TWO + "w0,1,5;w1,2,5;w0,2,11;").far(2, 0), 10);
  }

  private static void limit() {
    sentence = "9: far is N at most";
    for (int n : new int[] {1, 2, 30, 59, 60}) {
      due("far N", laid(TWO + "w0,1," + n + ";n" + n + ";").comes(1), n);
      due("far N and 1", laid(TWO + "w0,1," + n + ";n" + (n == 1 ? 1 : n - 1) + ";").comes(1), n == 1 ? 1 : NONE);
    }
    due("2 by N 1", laid(TWO + "w0,1,2;n1;").comes(1), NONE);
    due("99 by N 99", laid(ONE + TWO + "w0,1,60;w1,2,39;n99;").comes(2), 99);
    due("100 by N 99", laid(ONE + TWO + "w0,1,60;w1,2,40;n99;").comes(2), NONE);
    due("its own by N 1", laid(TWO + "w0,1,2;n1;").comes(0), 0);
    sentence = "9: far as it is, of whatever kind the child";
    due("LAME, twice is beyond N", laid("h0,0;h1,0;w0,1,50;n50;").comes(1), 100);
    due("LAME, far is beyond N", laid("h0,0;h1,0;w0,1,51;n50;").comes(1), NONE);
    due("POOR, two thirds are not beyond N", laid("h0,0;h2,0;w0,1,51;n50;").comes(1), NONE);
    due("SLEEPER and LATE beyond N", laid("h0,0;h3,40;w0,1,50;n50;").comes(1), 105);
    BellSchool kept = laid(TWO + "w0,1,50;n50;");
    kept.keepBack(1);
    due("KEPT BACK beyond N", kept.comes(1), 70);
    due("no way at all", laid(TWO).comes(1), NONE);
    due("no way at all, at its own", laid(TWO).comes(0), 0);
  }

  private static void byKind() {
    sentence = "9: twice for a LAME one; two thirds of it, cut, for a POOR one; 15 for a SLEEPER";
    for (int m = 1; m <= 60; m++) {
      due("PLAIN, " + m, laid("h0,0;h0,0;w0,1," + m + ";").comes(1), m);
      due("LAME, " + m, laid("h0,0;h1,0;w0,1," + m + ";").comes(1), m + m);
      due("POOR, " + m, laid("h0,0;h2,0;w0,1," + m + ";").comes(1), m - (m + 2) / 3);
      due("SLEEPER, " + m, laid("h0,0;h3,0;w0,1," + m + ";").comes(1), m + 15);
    }
    due("cut behind the whole way, not each", laid("h0,0;h0,0;h2,0;w0,1,1;w1,2,1;").comes(2), 1);
    due("late is not doubled", laid("h0,0;h1,40;w0,1,60;").comes(1), 160);
    due("late is not cut", laid("h0,0;h2,40;w0,1,60;").comes(1), 80);
    sentence = "9: at 0, if that is its own";
    for (int kind = 0; kind <= 3; kind++) {
      BellSchool x = laid("h" + kind + ",40;h0,0;w0,1,9;");
      due("of kind " + kind, x.comes(0), 0);
      x.keepBack(0);
      due("KEPT BACK from its own, of kind " + kind, x.comes(0), 20);
    }
  }

  private static void lateAndKeptBack() {
    sentence = "9: as many minutes more as it is late; 20 later, if it is kept back";
    for (int late : new int[] {0, 1, 39, 40}) {
      BellSchool x = laid("h0,0;h0," + late + ";w0,1,1;");
      due("late " + late, x.comes(1), 1 + late);
      x.keepBack(1);
      due("late " + late + " and KEPT BACK", x.comes(1), 21 + late);
      x.keepBack(1);
      due("no more", x.comes(1), 1 + late);
    }
    BellSchool latest = laid("h0,0;h1,40;h0,0;w0,2,39;w2,1,60;n99;");
    latest.keepBack(1);
    due("LAME by 99, late 40, KEPT BACK", latest.comes(1), 258);
    sentence = "9: a child that is not SICK";
    latest.sick(1);
    due("SICK", latest.comes(1), NONE);
    latest.sick(0);
    due("SICK at its own", latest.comes(0), NONE);
    latest.keepBack(0);
    due("SICK and KEPT BACK at its own", latest.comes(0), NONE);
    latest.sick(0);
    due("well, and KEPT BACK still", latest.comes(0), 20);
    due("comes(-1)", latest.comes(-1), BAD);
    due("comes(3)", latest.comes(3), BAD);
    latest.sick(2);
    due("BAD ahead of NONE", latest.comes(3), BAD);
  }

  private static void last() {
    sentence = "10: who comes latest, of several the highest; nobody, if none comes";
    BellSchool x = laid(SEVEN + "w0,1,5;w0,2,5;w0,3,5;w0,4,5;w0,5,5;w0,6,5;");
    for (int c = 6; c >= 0; c--) {
      due("last() of " + (c + 1), x.last(), c);
      x.sick(c);
    }
    due("last() of none", x.last(), NONE);
    x.keepBack(3);
    due("last() of none, one KEPT BACK", x.last(), NONE);
    x.sick(3);
    due("one that is well", x.last(), 3);
    BellSchool near = laid("h0,0;h2,0;h0,0;h0,20;w0,1,1;w0,2,1;n1;");
    due("a minute more", near.last(), 2);
    near.sick(2);
    due("a POOR one at 0 as 0 is, 3 cut off", near.last(), 1);
    near.keepBack(0);
    due("0 at 20", near.last(), 0);
    near.keepBack(1);
    due("both at 20", near.last(), 1);
    due("nobody but its own", laid(TWO + "b1;").last(), 1);
    BellSchool tie = laid("h0,0;h0,0;w0,1,20;b0;");
    tie.keepBack(0);
    due("0 KEPT BACK to 20, 1 at 20", tie.last(), 1);
    BellSchool less = laid("h0,0;h0,0;w0,1,19;b0;");
    less.keepBack(0);
    due("0 KEPT BACK to 20, 1 at 19", less.last(), 0);
  }

  private static void soups() {
    sentence = "11: each that comes eats a soup where the bell is";
    BellSchool x = laid("h0,0;h0,0;h0,0;h0,0;w0,1,5;w0,2,6;n5;");
    x.pass(1);
    due("0 and 1, not the one too far nor the one cut off", x.home(0, 4), 2);
    due("not where the bell is carried", x.home(1, 4), 0);
    x.sick(0);
    x.pass(1);
    due("1 alone, 0 is SICK", x.home(1, 4), 1);
    due("in all", x.count(6), 3);
    x.sick(1);
    x.pass(28);
    due("nobody", x.count(6), 3);
    x.sick(1);
    x.keepBack(1);
    x.pass(1);
    due("one KEPT BACK eats, too", x.home(1, 4), 2);
    BellSchool all = laid(STAR);
    all.pass(28);
    due("seven on each of 28 days", all.count(6), 196);
    int sum = 0;
    for (int h = 0; h < 7; h++) {
      sum += all.home(h, 4);
    }
    due("all of them at homes", sum, 196);
    due("the first day at 0", all.home(0, 4), 7);
    due("14 days at 6", all.home(6, 4), 98);
    due("13 days at 5", all.home(5, 4), 91);
  }

  private static void daysGoBy() {
    sentence = "11: n days (1 to 28) go by";
    BellSchool x = laid(ROW);
    due("pass(0)", x.pass(0), BAD);
    due("pass(1)", x.pass(1), 2);
    due("pass(28)", x.pass(28), 2);
    due("pass(29)", x.pass(29), BAD);
    due("pass(27)", x.pass(27), 0);
    due("count(3)", x.count(3), 56);
    for (int n = 1; n <= 28; n++) {
      BellSchool whole = new BellSchool();
      BellSchool single = new BellSchool();
      int at = whole.pass(n);
      for (int i = 0; i < n; i++) {
        single.pass(1);
      }
      due("pass(" + n + ") as one by one", at, single.count(4));
      due("bell", whole.count(4), at);
      due("days", whole.count(3), n);
      due("soups", whole.count(6), single.count(6));
      due("undoable", whole.count(8), 1);
      due("undoable one by one", single.count(8), Math.min(n, 8));
      due("as BEHIND", new BellSchool().behind(n), at);
    }
    sentence = "11: it stays, if nobody is last";
    BellSchool none = laid(ROW + "b1;");
    none.sick(0);
    none.sick(1);
    none.sick(2);
    due("pass(28)", none.pass(28), 1);
    due("had by no other", none.home(0, 3) + none.home(2, 3), 0);
    due("no soups", none.count(6), 0);
    due("days", none.count(3), 28);
  }

  private static void keptBackForADay() {
    sentence = "12: a child can be kept back, or no more (for that day alone)";
    BellSchool x = laid(STAR);
    for (int c = 0; c < 7; c++) {
      due("keepBack(" + c + ")", x.keepBack(c), 1);
      due("home(" + c + ", 6)", x.home(c, 6), 1);
    }
    due("keepBack(7)", x.keepBack(7), BAD);
    due("keepBack(-1)", x.keepBack(-1), BAD);
    due("keepBack(6) no more", x.keepBack(6), 0);
    due("home(6, 6)", x.home(6, 6), 0);
    due("5 is last of those kept back", x.last(), 5);
    x.pass(1);
    for (int c = 0; c < 7; c++) {
      due("behind the day, home(" + c + ", 6)", x.home(c, 6), 0);
    }
    BellSchool sick = laid(ROW);
    sick.sick(1);
    sick.keepBack(1);
    sick.pass(1);
    due("a SICK one, behind the day", sick.home(1, 6), 0);
    BellSchool none = laid(ONE);
    none.sick(0);
    none.keepBack(0);
    none.pass(1);
    due("behind a day that nobody comes", none.home(0, 6), 0);
    BellSchool two = laid(ROW);
    two.keepBack(0);
    due("for the first of two days alone: stays, then 2", two.pass(2), 2);
  }

  private static void sickAndWell() {
    sentence = "13: be sick, be well";
    BellSchool x = laid(STAR);
    for (int c = 0; c < 7; c++) {
      due("sick(" + c + ")", x.sick(c), 1);
      due("count(5)", x.count(5), c + 1);
    }
    due("sick(7)", x.sick(7), BAD);
    due("sick(-1)", x.sick(-1), BAD);
    x.pass(28);
    due("SICK behind days", x.count(5), 7);
    for (int c = 0; c < 7; c++) {
      due("well " + c, x.sick(c), 0);
      due("count(5)", x.count(5), 6 - c);
    }
    due("six homes, sick(6)", new BellSchool().sick(6), BAD);
    due("six homes, sick(5)", new BellSchool().sick(5), 1);
  }

  private static void shutAndOpened() {
    sentence = "14: a way be shut, opened";
    BellSchool x = laid(STAR + "s0,3,0,0;");
    for (int h = 1; h < 7; h++) {
      due("shut(0, " + h + ")", x.shut(0, h), 1);
      due("count(2)", x.count(2), h);
      due("way", x.way(h, 0, 1), 0);
    }
    due("alike", x.shut(6, 6), BAD);
    due("alike", x.shut(0, 0), BAD);
    due("alike where there is no home", x.shut(7, 7), BAD);
    due("shut(0, 7)", x.shut(0, 7), BAD);
    due("shut(-1, 0)", x.shut(-1, 0), BAD);
    due("NO: there is none", x.shut(5, 6), NO);
    due("BAD ahead of NO", x.shut(5, 7), BAD);
    due("opened", x.shut(3, 0), 0);
    due("in snow, though opened", x.way(0, 3, 1), 0);
    due("count(1) with the shut ones", x.count(1), 6);
    due("count(2)", x.count(2), 5);
    x.pass(28);
    due("SHUT behind days", x.count(2), 5);
    BellSchool most = laid("h0,0;h0,0;h0,0;h0,0;h0,0;w0,1,1;w0,2,1;w0,3,1;w0,4,1;w1,2,1;w1,3,1;w1,4,1;w2,3,1;w2,4,1;w3,4,1;");
    int many = 0;
    for (int a = 0; a < 5; a++) {
      for (int b = a + 1; b < 5; b++) {
        many++;
        due("shut", most.shut(b, a), 1);
        due("count(2)", most.count(2), many);
      }
    }
    due("count(1)", most.count(1), 10);
  }

  private static void undone() {
    sentence = "15: the last 8 can be undone";
    BellSchool x = laid(ROW);
    due("none yet", x.undo(), NO);
    for (int i = 1; i <= 9; i++) {
      x.keepBack(0);
      due("count(8)", x.count(8), Math.min(i, 8));
    }
    due("kept back nine times", x.home(0, 6), 1);
    for (int left = 7; left >= 0; left--) {
      due("undo()", x.undo(), left);
      due("count(8)", x.count(8), left);
      due("home(0, 6)", x.home(0, 6), left % 2 == 0 ? 1 : 0);
    }
    due("a ninth", x.undo(), NO);
    due("as behind the first", x.home(0, 6), 1);
    for (int i = 0; i < 8; i++) {
      x.sick(1);
    }
    due("eight", x.count(8), 8);
    x.shut(0, 1);
    due("eight still", x.count(8), 8);
    sentence = "15: all that go by at one time are one";
    BellSchool y = laid(ROW);
    y.pass(28);
    due("count(8)", y.count(8), 1);
    due("undo()", y.undo(), 0);
    dueCounts(y, 3, 2, 0, 0, 0, 0, 0, 0, 0, 0, 29);
    due("home(2, 3)", y.home(2, 3), 0);
    due("undo() of an undoing", y.undo(), NO);
    sentence = "15: behind an undoing there is room for as many as were undone";
    for (int i = 0; i < 20; i++) {
      y.pass(1);
      if (i % 3 == 2) {
        y.undo();
      }
    }
    due("count(8)", y.count(8), 8);
    due("count(3)", y.count(3), 14);
    for (int i = 0; i < 8; i++) {
      y.undo();
    }
    due("count(3)", y.count(3), 6);
    due("undo()", y.undo(), NO);
  }

  private static void undoneByKind() {
    sentence = "15: the latest days, keeping, sickness, shutting";
    BellSchool x = laid(ROW);
    x.shut(0, 1);
    x.sick(2);
    x.keepBack(1);
    x.pass(2);
    x.shut(0, 1);
    x.sick(2);
    x.keepBack(0);
    due("undo() of keeping", x.undo(), 6);
    due("home(0, 6)", x.home(0, 6), 0);
    due("undo() of being well", x.undo(), 5);
    due("home(2, 5)", x.home(2, 5), 1);
    due("undo() of opening", x.undo(), 4);
    due("way(0, 1, 1)", x.way(0, 1, 1), 0);
    due("undo() of days", x.undo(), 3);
    due("count(3)", x.count(3), 0);
    due("count(6)", x.count(6), 0);
    due("kept back as ahead of the days", x.home(1, 6), 1);
    due("undo() of keeping", x.undo(), 2);
    due("undo() of sickness", x.undo(), 1);
    due("undo() of shutting", x.undo(), 0);
    dueCounts(x, 3, 2, 0, 0, 0, 0, 0, 0, 0, 0, 29);
    sentence = "15: nothing else can be undone";
    x.write('h');
    x.see(1, 1);
    x.see(1, 2);
    x.forget();
    x.keep();
    x.wipe();
    x.behind(5);
    x.each(0);
    x.year(1, 5, 0);
    due("count(8)", x.count(8), 0);
    due("undo()", x.undo(), NO);
    x.see(1, 1);
    x.pass(1);
    x.undo();
    due("what is seen stays", x.count(7), 1);
    due("what is kept stays", x.count(9), 1);
    due("the text stays", x.write('h'), 1);
  }

  // ---- 3: what comes

  private static void behind() {
    sentence = "16: behind n days (0 to 60)";
    BellSchool x = laid(ROW);
    due("behind(-1)", x.behind(-1), BAD);
    due("behind(0)", x.behind(0), 0);
    due("behind(1)", x.behind(1), 2);
    due("behind(59)", x.behind(59), 2);
    due("behind(60)", x.behind(60), 0);
    due("behind(61)", x.behind(61), BAD);
    x.pass(1);
    due("behind(0) a day on", x.behind(0), 2);
    due("behind(60) a day on", x.behind(60), 2);
    BellSchool snow = laid(TWO + "w0,1,5;s0,1,0,26;");
    due("behind(27): day 27 is not over", snow.behind(27), 0);
    due("behind(28): it is", snow.behind(28), 1);
    due("behind(55)", snow.behind(55), 1);
    due("behind(56): day 27 has come again", snow.behind(56), 0);
    snow.pass(27);
    due("on day 27", snow.behind(1), 1);
    due("on day 27", snow.behind(28), 1);
    due("on day 27", snow.behind(29), 0);
  }

  private static void again() {
    sentence = "17: behind how many days (1 to 56) it is first where it is now";
    due("1: it stays", laid(TWO).again(), 1);
    due("2: there and back", laid(ROW).again(), 2);
    // All ways on day 0 alone: over to 1 on day 0, to 2 on day 28, back on day 56, one day too late.
    BellSchool late = laid("h0,0;h1,5;h0,10;w0,1,10;w1,2,1;s0,1,1,27;s1,2,1,27;");
    due("at 1 behind a day", late.behind(1), 1);
    due("at 1 behind 28", late.behind(28), 1);
    due("at 2 behind 29", late.behind(29), 2);
    due("at 2 behind 56", late.behind(56), 2);
    due("at 0 behind 57", late.behind(57), 0);
    due("not behind 56 days", late.again(), NONE);
    // Over to 1 on day 0, to 2 on day 27, back on day 55.
    BellSchool just = laid("h0,9;h0,0;h0,0;w0,1,5;w1,2,5;w0,2,5;s0,1,1,27;s1,2,0,26;s0,2,0,26;n9;");
    due("at 2 behind 55", just.behind(55), 2);
    due("at 0 behind 56", just.behind(56), 0);
    due("behind 56 days", just.again(), 56);
    just.pass(1);
    due("where it stays", just.again(), 1);
    BellSchool round = laid(TWO + "w0,1,5;s0,1,1,27;");
    due("there on day 0, back on day 28", round.again(), 29);
  }

  private static void eachBounds() {
    sentence = "18: the fewest days (0 to 28)";
    // Over to 1 on day 27, to 2 on day 28: 29 days from day 0.
    BellSchool x = laid(ONE + TWO + "w0,1,5;w1,2,5;s0,1,0,26;s1,2,1,27;n5;");
    due("29 days are too many", x.each(0), NONE);
    due("so there is none on any", x.each(1) + x.each(28), 2 * NONE);
    due("each(29)", x.each(29), BAD);
    due("each(-1)", x.each(-1), BAD);
    x.pass(1);
    due("28 days", x.each(0), 28);
    due("nobody on the 28th", x.each(28), NONE);
    due("BAD: a 29th", x.each(29), BAD);
    x.pass(26);
    due("two days on day 27", x.each(0), 2);
    x.pass(1);
    due("a day on day 28", x.each(0), 1);
    x.pass(1);
    due("0 on day 29", x.each(0), 0);
    due("nobody on the first of none", x.each(1), NONE);
    due("BAD though all have had it", x.each(29), BAD);
    // 0 comes to 1 on day 27 alone, at 0 as 1 does, and is last only if KEPT BACK.
    BellSchool last = laid("h2,0;h0,0;w0,1,1;s0,1,0,26;b1;");
    due("28 days, 0 KEPT BACK", last.each(0), 28);
    for (int k = 1; k <= 27; k++) {
      due("nobody on the " + k + "th", last.each(k), NONE);
    }
    due("0 on the 28th", last.each(28), 0);
    // 4 is cut off until day 27; 6 and 5 are last by themselves, 1, 2 and 3 only if KEPT BACK.
    BellSchool seven = laid(STAR + "s0,4,0,26;");
    due("28 days for seven", seven.each(0), 28);
    for (int k = 1; k <= 24; k++) {
      due("nobody of seven on the " + k + "th", seven.each(k), NONE);
    }
    for (int k = 25; k <= 28; k++) {
      due("of seven on the " + k + "th", seven.each(k), k - 24);
    }
    sentence = "18: none";
    due("a home cut off", laid(TWO).each(0), NONE);
    due("a home alone", laid(ONE).each(0), 0);
    due("on the first of none", laid(TWO).each(1), NONE);
    due("BAD ahead of NONE", laid(TWO).each(29), BAD);
  }

  private static void eachRows() {
    sentence = "18: of several rows the first (by the first day, nobody ahead of child 0)";
    // At 2 all come at 0, 2 is last. At 0 child 1 and 2 come at 1.
    BellSchool x = laid("h2,0;h2,0;h0,0;w0,2,1;w1,2,1;b2;");
    due("each(0)", x.each(0), 2);
    due("child 0 ahead of 1", x.each(1), 0);
    due("then 1", x.each(2), 1);
    due("there are not so many", x.each(3), NONE);
    due("nobody ahead of child 0", laid(TWO + "w0,1,5;").each(1), NONE);
    BellSchool star = laid(STAR);
    due("star", star.each(0), 6);
    int[] row = {NONE, NONE, 1, 2, 3, 4};
    for (int k = 1; k <= 6; k++) {
      due("star " + k, star.each(k), row[k - 1]);
    }
    due("star 7", star.each(7), NONE);
    BellSchool far = laid(SEVEN + "w0,1,6;w0,2,5;w0,3,4;w0,4,3;w0,5,2;w0,6,1;");
    int[] up = {NONE, NONE, 3, 4, 5, 6};
    for (int k = 1; k <= 6; k++) {
      due("star, the nearest last, " + k, far.each(k), up[k - 1]);
    }
    sentence = "18: one child is kept back on each, so that 20 more are enough";
    due("20 behind, as late and the highest", laid("h0,0;h0,20;h0,0;w0,1,5;w0,2,5;n5;").each(3), 2);
    due("21 behind", laid("h0,0;h0,21;h0,0;w0,1,5;w0,2,5;n5;").each(0), NONE);
    due("20 behind, as late and lower", laid("h0,0;h0,0;h0,20;w0,1,5;w0,2,5;n5;").each(0), NONE);
    due("19 behind and lower", laid("h0,0;h0,0;h0,19;w0,1,5;w0,2,5;n5;").each(3), 1);
    sentence = "18: who is kept back now is not";
    BellSchool kept = laid(ROW);
    kept.keepBack(1);
    kept.keepBack(2);
    due("each(0)", kept.each(0), 2);
    due("each(1)", kept.each(1), NONE);
    due("each(2)", kept.each(2), 1);
    due("kept back still", kept.home(1, 6), 1);
  }

  private static void eachIsAskedAnew() {
    sentence = "18: from now on, as all stands now";
    BellSchool day = laid(TWO + "w0,1,5;s0,1,0,26;");
    due("day 0", day.each(0), 28);
    day.pass(1);
    due("day 1", day.each(0), 27);
    day.undo();
    due("day 0 again", day.each(0), 28);
    // 1 and 2 come to 0 alone, 2 is last there.
    BellSchool x = laid(ONE + TWO + "w0,1,5;w0,2,5;n5;");
    x.keepBack(0);
    x.pass(2);
    due("at 2 on day 2", x.each(0), 2);
    due("at 2, on the first", x.each(1), NONE);
    due("at 2, on the second", x.each(2), 1);
    x.undo();
    x.undo();
    x.pass(2);
    due("had as then", x.home(0, 3) + x.home(1, 3) * 10 + x.home(2, 3) * 100, 101);
    due("at 0 on day 2", x.each(0), 1);
    x.undo();
    x.keepBack(0);
    x.pass(1);
    x.keepBack(0);
    x.pass(1);
    due("at 0 on day 2, which alone has had it", x.each(0), 3);
    x.sick(1);
    due("1 is SICK", x.each(0), NONE);
    x.sick(1);
    due("and well", x.each(0), 3);
    x.shut(0, 2);
    due("a way is SHUT", x.each(0), NONE);
    x.undo();
    due("and opened", x.each(0), 3);
    sentence = "18: another valley, where all stands alike";
    BellSchool other = laid(ROW);
    due("ROW", other.each(0), 2);
    other.wipe();
    spell(other, "h0,0;h0,9;h0,0;w0,1,5;w1,2,5;");
    other.lay();
    due("1 is last at 0", other.each(0), 2);
    due("and need not be kept back", other.each(2), NONE);
    other.wipe();
    spell(other, ROW + "n4;");
    other.lay();
    due("nobody goes so far", other.each(0), NONE);
  }

  private static void always() {
    sentence = "19: last today, at whichever home the bell were";
    BellSchool x = laid(STAR);
    due("6, but not at 6", x.always(), 0);
    x.keepBack(6);
    due("6 KEPT BACK", x.always(), 64);
    x.keepBack(0);
    due("6 and 0 KEPT BACK: 0 is last at 6", x.always(), 0);
    x.sick(6);
    due("6 SICK: 0 at 20 and more", x.always(), 1);
    x.sick(6);
    x.shut(0, 6);
    due("6 cut off", x.always(), 0);
    x.undo();
    x.pass(1);
    due("today alone", x.always(), 0);
    BellSchool one = laid(ONE);
    due("a home alone", one.always(), 1);
    one.sick(0);
    due("nobody comes", one.always(), 0);
    BellSchool snow = laid("h0,30;h0,0;w0,1,5;s0,1,0,0;");
    due("today's snow", snow.always(), 0);
    snow.keepBack(0);
    due("cut off from 1, though KEPT BACK", snow.always(), 0);
    snow.pass(1);
    snow.keepBack(0);
    due("a day on, KEPT BACK", snow.always(), 1);
    BellSchool six = new BellSchool();
    for (int c = 0; c < 5; c++) {
      six.sick(c);
    }
    due("5 alone, but too far for some", six.always(), 32);
    six.shut(4, 5);
    six.shut(2, 5);
    due("5 alone, cut off", six.always(), 0);
  }

  private static void never() {
    sentence = "20: where the bell is not now, nor behind any of the next 56 days";
    BellSchool x = laid(STAR);
    due("0 now, then 6, 5, 6 ..", x.never(), 30);
    x.keepBack(4);
    due("0 now, then 4, 6, 5, 6 ..", x.never(), 14);
    x.pass(1);
    due("4 now, then 6, 5, 6 ..", x.never(), 15);
    due("cut off", laid(SEVEN + "b3;").never(), 119);
    // To 1 on day 27, to 2 on day 55.
    due("there behind 56", laid(ONE + TWO + "w0,1,5;w1,2,5;s0,1,0,26;s1,2,0,26;n9;").never(), 0);
    // To 1 on day 0, to 2 on day 28, on to 3 on day 56.
    String row = "h0,0;h0,0;h0,20;h0,40;w0,1,5;w1,2,5;w2,3,5;s0,1,1,27;s1,2,1,27;s2,3,1,27;n5;";
    BellSchool late = laid(row);
    due("behind(56)", late.behind(56), 2);
    due("behind(57)", late.behind(57), 3);
    due("there behind 57", late.never(), 8);
    late.pass(1);
    due("there behind 56 of a day on", late.never(), 1);
  }

  // ---- 4: what was seen

  private static void seen() {
    sentence = "21: seen (6 at most), behind t (1 to 28) days";
    BellSchool x = laid(STAR);
    due("see(0, 0)", x.see(0, 0), BAD);
    due("see(0, 1)", x.see(0, 1), 1);
    due("see(6, 28)", x.see(6, 28), 2);
    due("see(6, 29)", x.see(6, 29), BAD);
    due("see(7, 1)", x.see(7, 1), BAD);
    due("see(-1, 1)", x.see(-1, 1), BAD);
    due("see(0, -1)", x.see(0, -1), BAD);
    due("see(0, 1) again", x.see(0, 1), 3);
    due("a fourth", x.see(3, 14), 4);
    due("a fifth", x.see(3, 15), 5);
    due("a sixth", x.see(3, 16), 6);
    due("a seventh", x.see(3, 17), FULL);
    due("BAD ahead of FULL", x.see(7, 17), BAD);
    due("BAD ahead of FULL", x.see(3, 0), BAD);
    due("BAD ahead of FULL", x.see(3, 29), BAD);
    due("count(7)", x.count(7), 6);
    sentence = "22: nothing is seen: how many were";
    due("forget() of six", x.forget(), 6);
    due("count(7)", x.count(7), 0);
    due("forget() of none", x.forget(), 0);
    due("see() behind it", x.see(6, 1), 1);
    due("none of the six comes again", x.fog(), 63);
  }

  private static void fog() {
    sentence = "23: homes such that, were the bell there now, all that is seen would be so";
    BellSchool x = laid(STAR);
    due("nothing seen: all", x.fog(), 127);
    x.see(5, 1);
    due("5 behind 1: from 6", x.fog(), 64);
    x.forget();
    x.see(6, 28);
    due("6 behind 28: from 6", x.fog(), 64);
    x.forget();
    x.see(5, 28);
    due("5 behind 28: from all but 6", x.fog(), 63);
    x.see(6, 27);
    due("6 behind 27, too", x.fog(), 63);
    x.see(4, 28);
    due("4 behind 28, too: none", x.fog(), 0);
    sentence = "23: the sixth that is seen";
    x.forget();
    for (int t = 1; t <= 5; t++) {
      x.see(t % 2 == 1 ? 6 : 5, t);
    }
    due("five", x.fog(), 63);
    x.see(6, 6);
    due("a sixth that is not so", x.fog(), 0);
    sentence = "23: from now (as it stands when that is asked)";
    BellSchool snow = laid(TWO + "w0,1,5;s0,1,0,26;");
    snow.see(0, 28);
    due("day 27 is the 28th: from 1", snow.fog(), 2);
    snow.see(0, 27);
    due("both", snow.fog(), 0);
    snow.forget();
    snow.see(0, 27);
    due("27 days of snow: from 0", snow.fog(), 1);
    snow.pass(1);
    due("day 27 is the 27th: from 1", snow.fog(), 2);
    snow.keepBack(0);
    snow.sick(1);
    due("1 is SICK: from both", snow.fog(), 3);
    BellSchool kept = laid(ROW);
    kept.see(1, 1);
    due("from none", kept.fog(), 0);
    kept.keepBack(1);
    due("1 KEPT BACK: from all", kept.fog(), 7);
  }

  private static void tripped() {
    sentence = "24: children such that, kept back now, all that is seen would be so; 128 more, if it is as it is";
    BellSchool x = laid(STAR);
    due("nothing seen: all", x.tripped(), 255);
    x.see(6, 1);
    due("6 as it is, or if KEPT BACK", x.tripped(), 192);
    x.forget();
    for (int c = 0; c < 7; c++) {
      x.see(c, 1);
      due("it is " + c + " alone", x.tripped(), c == 6 ? 192 : 1 << c);
      x.forget();
    }
    x.see(6, 28);
    due("as it is 5 behind 28, all a day later if another than 6 was", x.tripped(), 63);
    x.forget();
    x.see(0, 1);
    x.see(1, 1);
    due("not at two", x.tripped(), 0);
    sentence = "24: besides those who are";
    BellSchool y = laid(STAR);
    y.keepBack(3);
    y.see(3, 1);
    due("3 as it is, or another below", y.tripped(), 1 + 2 + 4 + 8 + 128);
    y.forget();
    y.see(5, 1);
    due("5 besides 3", y.tripped(), 32);
    y.forget();
    y.see(2, 1);
    due("2 besides 3: not last", y.tripped(), 0);
    y.keepBack(3);
    due("2 alone", y.tripped(), 4);
    sentence = "24: a child that does not come";
    y.sick(2);
    due("2 is SICK", y.tripped(), 0);
    y.forget();
    y.see(6, 1);
    due("2 is SICK and makes nothing later", y.tripped(), 4 + 64 + 128);
  }

  // ---- 4: measles, years, what is kept

  private static void dueChance(BellSchool x, int h, int n, int tenths, long above, long below) {
    due("measles(" + h + ", " + n + ", " + tenths + ", 0)", x.measles(h, n, tenths, 0), above);
    due("measles(" + h + ", " + n + ", " + tenths + ", 1)", x.measles(h, n, tenths, 1), below);
  }

  private static void measlesBounds() {
    sentence = "25: on n (0 to 2) days, by x (0 to 10) of ten";
    BellSchool x = laid(STAR);
    int[][] bad = {{-1, 0, 0, 0}, {7, 0, 0, 0}, {0, -1, 0, 0}, {0, 3, 0, 0}, {0, 0, -1, 0}, {0, 0, 11, 0},
        {0, 0, 0, -1}, {0, 0, 0, 2}, {6, 2, 10, 2}, {6, 2, 11, 1}, {6, 3, 10, 1}, {7, 2, 10, 1}};
    for (int[] b : bad) {
      due("bad measles", x.measles(b[0], b[1], b[2], b[3]), BAD);
    }
    for (int tenths = 0; tenths <= 10; tenths++) {
      dueChance(x, 0, 0, tenths, 1, 1);
      dueChance(x, 6, 0, tenths, 0, 1);
    }
    dueChance(x, 6, 1, 0, 1, 1);
    dueChance(x, 0, 1, 0, 0, 1);
    dueChance(x, 5, 2, 0, 1, 1);
    dueChance(x, 6, 2, 0, 0, 1);
    dueChance(x, 0, 1, 10, 1, 1);
    dueChance(x, 0, 2, 10, 1, 1);
    dueChance(x, 6, 2, 10, 0, 1);
    dueChance(x, 6, 1, 1, 9, 10);
    dueChance(x, 6, 1, 9, 1, 10);
    dueChance(x, 1, 1, 5, 1, 64);
    dueChance(x, 0, 1, 5, 1, 64);
    dueChance(x, 0, 1, 1, 1, 1000000);
    sentence = "25: in lowest terms, over more than an int holds (reckoned by another program)";
    dueChance(x, 0, 2, 3, 425072853L, 250000000000L);
    dueChance(x, 1, 2, 3, 2829350979L, 500000000000L);
    dueChance(x, 2, 2, 3, 1876482153L, 100000000000L);
    dueChance(x, 6, 2, 3, 2105103L, 10000000L);
    dueChance(x, 0, 2, 1, 1124999L, 125000000000L);
    dueChance(x, 1, 2, 7, 35893939179L, 500000000000L);
    dueChance(x, 0, 2, 9, 38762184609L, 125000000000L);
    dueChance(x, 0, 2, 5, 1, 64);
    dueChance(x, 1, 2, 5, 63, 2048);
  }

  private static void measlesOnTheRound() {
    sentence = "25: each child that is not sick, on each day anew, from now on";
    BellSchool snow = laid(TWO + "w0,1,5;s0,1,0,27;");
    dueChance(snow, 1, 2, 3, 0, 1);
    BellSchool round = laid(TWO + "w0,1,5;s0,1,0,26;");
    passDays(round, 26);
    dueChance(round, 1, 1, 3, 0, 1);
    dueChance(round, 1, 2, 3, 7, 10);
    round.pass(1);
    dueChance(round, 1, 1, 3, 7, 10);
    dueChance(round, 1, 2, 3, 7, 10);
    round.sick(1);
    dueChance(round, 1, 2, 3, 0, 1);
    dueChance(round, 0, 2, 3, 1, 1);
    BellSchool kept = laid(TWO + "w0,1,5;");
    kept.keepBack(0);
    // Carried to 1 if 1 comes and 0 does not: 7/10 by 3/10.
    dueChance(kept, 1, 1, 3, 21, 100);
    // Kept back on the first day alone: 79/100 by 3/10 and 21/100 by 7/10.
    dueChance(kept, 0, 2, 3, 48, 125);
    kept.sick(0);
    dueChance(kept, 1, 1, 3, 7, 10);
    kept.sick(1);
    dueChance(kept, 0, 2, 3, 1, 1);
    due("nobody is kept back by asking, nor no more", kept.home(0, 6) * 10 + kept.home(1, 6), 10);
  }

  private static void year() {
    sentence = "26: a year by z (0 to 9999) of n (1 to 60) days";
    BellSchool x = laid(ROW);
    int[][] bad = {{-1, 1, 0}, {10000, 1, 0}, {0, 0, 0}, {0, 61, 0}, {0, -1, 0}, {0, 1, -1}, {0, 1, 2},
        {10000, 60, 1}, {9999, 61, 1}, {9999, 60, 2}};
    for (int[] b : bad) {
      due("year(" + b[0] + ", " + b[1] + ", " + b[2] + ")", x.year(b[0], b[1], b[2]), BAD);
    }
    // x = 1 on the first day of year 0: DRAW 0, child 0 is kept back at its own.
    due("year(0, 1, 0)", x.year(0, 1, 0), 0);
    due("year(0, 1, 1)", x.year(0, 1, 1), 3);
    due("year(0, 60, 1)", x.year(0, 60, 1), 180);
    due("year(9999, 1, 0)", x.year(9999, 1, 0), 1);
    due("year(9999, 60, 1)", x.year(9999, 60, 1), 180);
    for (int z : new int[] {0, 1, 2, 17, 1234, 9998, 9999}) {
      for (int n : new int[] {1, 2, 3, 27, 28, 29, 59, 60}) {
        BellSchool byDays = new BellSchool();
        goByDays(byDays, z, n);
        due("year(" + z + ", " + n + ", 0) of the first valley", new BellSchool().year(z, n, 0), byDays.count(4));
        due("year(" + z + ", " + n + ", 1) of the first valley", new BellSchool().year(z, n, 1), byDays.count(6));
        byDays = laid(ROW + "n5;");
        int where = byDays.year(z, n, 0);
        int soups = byDays.year(z, n, 1);
        goByDays(byDays, z, n);
        due("year(" + z + ", " + n + ", 0) of a row", where, byDays.count(4));
        due("year(" + z + ", " + n + ", 1) of a row", soups, byDays.count(6));
      }
    }
    sentence = "26: kept back besides";
    x.keepBack(2);
    due("0 by DRAW and 2", x.year(0, 1, 0), 2);
    x.keepBack(2);
    x.keepBack(0);
    due("0 by DRAW and 0: not no more", x.year(0, 1, 0), 0);
    sentence = "26: eaten in it";
    x.pass(28);
    due("not those ahead of it", x.year(3, 1, 1), 3);
    due("nothing goes by", x.count(3), 28);
  }

  /** A year by keeping children back and letting days go by one by one. */
  private static void goByDays(BellSchool x, int z, int n) {
    for (int k = 0; k < n; k++) {
      long square = (7919L * z + 6151L * k + 1) * (7919L * z + 6151L * k + 1);
      int draw = (int) (square % 65521) / 2;
      if (draw / 8 % 2 == 0) {
        x.keepBack(draw % x.count(0));
      }
      x.pass(1);
    }
  }

  private static void kept() {
    sentence = "27: 2 at most";
    BellSchool x = laid(ROW);
    due("back() to none", x.back(), NO);
    due("keep()", x.keep(), 1);
    x.pass(1);
    x.keepBack(1);
    x.sick(0);
    x.shut(0, 1);
    due("keep() a second", x.keep(), 2);
    x.pass(1);
    due("keep() a third", x.keep(), FULL);
    due("count(9)", x.count(9), 2);
    sentence = "28: as kept last (it is kept no more then): how many are left";
    x.see(1, 1);
    x.see(1, 2);
    x.write('x');
    due("back()", x.back(), 1);
    dueCounts(x, 3, 2, 1, 1, 2, 1, 3, 2, 0, 1, 30);
    due("kept back as then", x.home(1, 6), 1);
    due("undo(): nothing can be", x.undo(), NO);
    x.forget();
    x.wipe();
    x.sick(1);
    due("count(8)", x.count(8), 1);
    due("back() again", x.back(), 0);
    dueCounts(x, 3, 2, 0, 0, 0, 0, 0, 0, 0, 0, 0);
    due("undo() behind it", x.undo(), NO);
    due("back() a third", x.back(), NO);
    due("had as then", x.home(2, 3), 0);
    due("keep() anew", x.keep(), 1);
    x.lay();
    due("kept still: there was no text to lay", x.count(9), 1);
    due("back()", x.back(), 0);
    sentence = "28: kept as it stood, whatever comes behind";
    x.keep();
    x.pass(5);
    x.undo();
    x.sick(2);
    due("back()", x.back(), 0);
    due("well as then", x.home(2, 5), 0);
    due("day as then", x.count(3), 0);
  }

  private static void counted() {
    sentence = "29: how many";
    BellSchool x = laid(STAR + "b2;");
    dueCounts(x, 7, 6, 0, 0, 2, 0, 0, 0, 0, 0, 80);
    due("count(-1)", x.count(-1), BAD);
    due("count(11)", x.count(11), BAD);
    x.sick(6);
    x.shut(0, 1);
    x.pass(3);
    x.see(1, 1);
    x.keep();
    x.write('h');
    // At 2 child 5 is last, at 5 child 4, at 4 child 5; 1 is cut off.
    dueCounts(x, 7, 6, 1, 3, 5, 1, 15, 1, 3, 1, 81);
    due("in all as at the homes", x.home(2, 4) + x.home(5, 4) + x.home(4, 4), 15);
  }

  private static void aHomeAlone() {
    sentence = "5: of a home at least";
    BellSchool x = laid("h3,40;");
    due("home(1, 0)", x.home(1, 0), BAD);
    due("way(0, 1, 0)", x.way(0, 1, 0), BAD);
    due("way(0, 0, 0)", x.way(0, 0, 0), BAD);
    due("far(0, 0)", x.far(0, 0), 0);
    due("far(0, 1)", x.far(0, 1), BAD);
    due("comes(0)", x.comes(0), 0);
    due("last()", x.last(), 0);
    due("shut(0, 0)", x.shut(0, 0), BAD);
    due("behind(60)", x.behind(60), 0);
    due("again()", x.again(), 1);
    due("each(0)", x.each(0), 0);
    due("each(28)", x.each(28), NONE);
    due("always()", x.always(), 1);
    due("never()", x.never(), 0);
    due("fog()", x.fog(), 1);
    due("tripped()", x.tripped(), 129);
    due("see(0, 28)", x.see(0, 28), 1);
    due("tripped() of one seen", x.tripped(), 129);
    dueChance(x, 0, 2, 5, 1, 1);
    due("year(9999, 60, 0)", x.year(9999, 60, 0), 0);
    due("year(9999, 60, 1)", x.year(9999, 60, 1), 60);
    due("pass(28)", x.pass(28), 0);
    due("count(6)", x.count(6), 28);
    x.sick(0);
    due("SICK: last()", x.last(), NONE);
    due("SICK: again()", x.again(), 1);
    due("SICK: always()", x.always(), 0);
    due("SICK: never()", x.never(), 0);
    due("SICK: fog()", x.fog(), 1);
    due("SICK: each(0)", x.each(0), 0);
    dueChance(x, 0, 2, 5, 1, 1);
    due("SICK: year", x.year(0, 60, 1), 0);
    due("SICK: pass(1)", x.pass(1), 0);
  }

  private static void sevenOnTheLastDay() {
    sentence = "4: 7 homes, 5: day 27, behind which day 0 comes again";
    BellSchool x = laid(STAR + "s0,6,27,27;");
    due("each(0): 0, 6, 5, 1, 2, 3, 4", x.each(0), 6);
    x.pass(27);
    due("last but one of 6 and 5", x.count(4), 6);
    due("way(0, 6, 1)", x.way(0, 6, 1), 0);
    due("far(6, 0)", x.far(6, 0), NONE);
    due("comes(6)", x.comes(6), 0);
    due("last()", x.last(), 6);
    due("behind(1)", x.behind(1), 6);
    due("behind(2)", x.behind(2), 5);
    due("again()", x.again(), 1);
    due("always()", x.always(), 0);
    due("each(0): a day of snow, 1, 2, 3, 4", x.each(0), 5);
    due("each(1)", x.each(1), NONE);
    due("each(2)", x.each(2), 1);
    due("each(5)", x.each(5), 4);
    // On day 55 the bell is at 5, and 6 is cut off from it: 4 is last.
    due("never()", x.never(), 15);
    x.see(5, 1);
    due("5 behind 1: from 1, 2, 3, 4 and 0", x.fog(), 31);
    due("tripped()", x.tripped(), 0);
    dueChance(x, 6, 1, 9, 1, 1);
    dueChance(x, 6, 2, 9, 531441, 1000000);
    BellSchool cut = laid(SEVEN);
    cut.pass(27);
    due("always() of seven cut off", cut.always(), 0);
    due("each(0) of seven cut off", cut.each(0), NONE);
    due("never() of seven cut off", cut.never(), 126);
    due("fog() of seven cut off", cut.fog(), 127);
  }

  // ---- the object

  private static void calls512() {
    sentence = "an object is used for at most 512 calls";
    BellSchool x = laid(ROW);
    int calls = 30;
    while (calls < 508) {
      x.pass(28);
      calls++;
    }
    due("call 509: days", x.count(3), 478 * 28);
    due("call 510: soups", x.count(6), 478 * 28 * 3);
    due("call 511: undo()", x.undo(), 7);
    due("call 512: days", x.count(3), 477 * 28);
    BellSchool y = new BellSchool();
    for (int call = 1; call < 512; call++) {
      due("each(0) at call " + call, y.each(0), NONE);
    }
    due("call 512", y.behind(60), 1);
  }

  private static void sideBySide() {
    sentence = "each object stands for itself";
    BellSchool a = laid(ROW);
    BellSchool b = laid(STAR);
    a.pass(1);
    a.sick(1);
    a.shut(0, 1);
    a.see(1, 1);
    a.keep();
    dueCounts(b, 7, 6, 0, 0, 0, 0, 0, 0, 0, 0, 77);
    dueCounts(a, 3, 2, 1, 1, 2, 1, 3, 1, 3, 1, 29);
    dueCounts(new BellSchool(), 6, 7, 0, 0, 0, 0, 0, 0, 0, 0, 0);
  }
}
