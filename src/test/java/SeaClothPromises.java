import java.util.NoSuchElementException;

/** For each promise of the document: ordinary inputs, its edges, and wrong inputs, worked out by hand. */
public final class SeaClothPromises {
  private static int wrong = 0;
  private static int checks = 0;
  private static int promise = 0;
  private static SeaCloth x = new SeaCloth();

  public static void main(String[] args) {
    clothsAndRules();
    nightsAndWork();
    whatGoes();
    whatHolds();
    howItLooks();
    gamesAndTales();
    oddsAndYears();
    keptAndCounted();
    textIsEmptied();
    refusalsChangeNothing();
    everySign();
    System.out.println(checks + " checks, " + wrong + " wrong");
    if (wrong != 0) {
      System.exit(1);
    }
  }

  // ---- helpers

  private static void due(String call, long got, long want) {
    checks++;
    if (got != want) {
      wrong++;
      System.out.println("promise " + promise + ": " + call + " answered " + got + ", due is " + want);
    }
  }

  private static void due(String call, boolean got, boolean want) {
    due(call, got ? 1 : 0, want ? 1 : 0);
  }

  private static void row(long... want) {
    due("count(6)", x.count(6), want.length);
    for (int i = 0; i < want.length && i < x.count(6); i++) {
      due("row(" + i + ")", x.row(i), want[i]);
    }
    throwsAtRow(want.length);
  }

  private static void throwsAtRow(int i) {
    boolean thrown = false;
    try {
      x.row(i);
    } catch (NoSuchElementException e) {
      thrown = true;
    }
    due("row(" + i + ") throws", thrown, true);
  }

  private static void throwsAtCell(int pick, int end) {
    boolean thrown = false;
    try {
      x.cell(pick, end);
    } catch (NoSuchElementException e) {
      thrown = true;
    }
    due("cell(" + pick + ", " + end + ") throws", thrown, true);
  }

  private static void throwsAtThread(int kind, int i, int what) {
    boolean thrown = false;
    try {
      x.thread(kind, i, what);
    } catch (NoSuchElementException e) {
      thrown = true;
    }
    due("thread(" + kind + ", " + i + ", " + what + ") throws", thrown, true);
  }

  private static void text(String s) {
    x.end(0);
    for (int p = 0; p < s.length(); p += 4) {
      int v = 0;
      for (int k = 0; k < 4; k++) {
        v = v << 8 | (p + k < s.length() ? s.charAt(p + k) : 0);
      }
      x.sign(v);
    }
    x.end(s.length());
  }

  private static int cloth(String s) {
    text(s);
    return x.cloth();
  }

  private static int rule(String s) {
    text(s);
    return x.rule();
  }

  private static int work(String s) {
    text(s);
    return x.work();
  }

  private static int rags(String s) {
    text(s);
    return x.rags();
  }

  private static int differs(String s) {
    text(s);
    return x.differs();
  }

  private static int law(String s) {
    text(s);
    return x.law();
  }

  private static void isCloth(String s) {
    int ends = s.charAt(0) - '0';
    due("ends of " + s, x.count(1), ends);
    due("picks of " + s, x.count(0), (s.length() - 1) / ends);
    for (int k = 1; k < s.length() && x.count(1) == ends && x.count(0) == (s.length() - 1) / ends; k++) {
      due("cell of " + s, x.cell((k - 1) / ends, (k - 1) % ends), s.charAt(k) == '#' ? 1 : 0);
    }
  }

  private static void start(int number, String cloth) {
    promise = number;
    x = new SeaCloth();
    due("cloth " + cloth, cloth(cloth), (cloth.length() - 1) / (cloth.charAt(0) - '0'));
  }

  // ---- a cloth

  private static void clothsAndRules() {
    promise = 1;
    x = new SeaCloth();
    long[] counts = {1, 1, 0, 1, 0, 0, 0, 0};
    for (int what = 0; what < 8; what++) {
      due("count(" + what + ")", x.count(what), counts[what]);
    }
    due("cell(0, 0)", x.cell(0, 0), 1);
    due("NONE", SeaCloth.NONE, -1);

    promise = 2;
    for (int n = 1; n <= 20; n++) {
      due("sign", x.sign('.' << 24 | '#' << 16 | 0xff00 | 0xff), 4 * n);
    }
    due("sign of 84", x.sign(0), -1);
    due("count(7)", x.count(7), 80);
    due("end(77)", x.end(77), true);
    due("sign of 81", x.sign(0), -1);
    due("end(76)", x.end(76), true);
    due("sign of 80", x.sign(-1), 80);
    x.end(0);
    x.sign('3' << 24 | '#' << 16 | '.' << 8 | '.');
    due("the highest byte is first", x.cloth(), 1);
    isCloth("3#..");

    promise = 3;
    text("3#.#...");
    due("end(8)", x.end(8), false);
    due("end(-1)", x.end(-1), false);
    due("count(7)", x.count(7), 7);
    due("end(7)", x.end(7), true);
    due("end(4)", x.end(4), true);
    due("end(5)", x.end(5), false);
    due("cloth", x.cloth(), 1);
    isCloth("3#.#");

    promise = 4;
    clothFaults();
    start(4, "6####################################");
    isCloth("6####################################");
    start(4, "1#.#.#.");
    isCloth("1#.#.#.");
    x.nights(2);
    x.keep(0);
    x.told(0, 1);
    rule("7");
    x.hangs();
    due("count(5)", x.count(5), 1);
    due("a cloth refused", cloth("2#"), -3);
    due("count(2)", x.count(2), 2);
    due("count(5)", x.count(5), 1);
    due("cloth", cloth("2#..#"), 2);
    isCloth("2#..#");
    due("count(2)", x.count(2), 0);
    due("count(5)", x.count(5), 0);
    due("again(0)", x.again(0), false);
    due("told yet", x.count(4), 1);
    due("the rule yet", x.thread(0, 0, 4), 107);
    due("the row yet", x.count(6), 2);

    promise = 5;
    ruleFaults();
    pulls();

    start(6, "3#.#.#.");
    due("cell(0, 2)", x.cell(0, 2), 1);
    due("cell(1, 2)", x.cell(1, 2), 0);
    throwsAtCell(2, 0);
    throwsAtCell(0, 3);
    throwsAtCell(-1, 0);
    throwsAtCell(0, -1);
    throwsAtCell(Integer.MAX_VALUE, Integer.MIN_VALUE);

    start(7, "3##..#.##.");
    long[][] due = {
      {3, 1, 1, 0, 101}, {2, 2, 0, 0, 101}, {3, 1, 1, 0, 99}, {2, 2, 0, 0, 102}, {0, 0, 0, 1, 99}, {7, 0, 0, 1, 98}};
    for (int t = 0; t < 6; t++) {
      for (int what = 0; what < 5; what++) {
        due("thread " + t + ", " + what, x.thread(t / 3, t % 3, what), due[t][what]);
      }
    }
    throwsAtThread(0, 3, 0);
    throwsAtThread(1, 3, 0);
    throwsAtThread(0, -1, 0);
    throwsAtThread(2, 0, 0);
    throwsAtThread(-1, 0, 0);
    throwsAtThread(0, 0, 5);
    throwsAtThread(0, 0, -1);

    sheets();
  }

  private static void clothFaults() {
    String[] texts = {"", "0", "7#", "#", "2", "2#", "2##.", "2#x", "2##0#", "2 ##", "1#######", "1######x",
      "6#####################################", "\u00e9"};
    int[] faults = {0, 0, 0, 0, 1, 2, 4, 2, 3, 1, 7, 7, 37, 0};
    x = new SeaCloth();
    for (int n = 0; n < texts.length; n++) {
      due("cloth " + texts[n], cloth(texts[n]), -1 - faults[n]);
      due("count(7)", x.count(7), 0);
    }
    isCloth("1#");
  }

  private static void ruleFaults() {
    String ones = "1+1+1+1+1+1+1+1+1+1+1+1+1+1+1+1+1+1+1+1";
    String[] texts = {"a", "c+", "1234", "(((((1", "1<2<3", "1)", "(1", "c i", "+c", "c*/i", "()", "ci", "c3", "3c",
      "(c)3", "(1)(2)", "1=", "(1<2>3)", "*", "c-", "-", "(", "~c", "1<(2=3)>1", ones + "+1", "--" + ones,
      ones + "+", ones + "+ccc", "1+x" + ones, "))))" + ones + ones};
    int[] faults = {0, 2, 3, 4, 3, 1, 2, 1, 0, 2, 1, 1, 1, 1, 3, 3, 2, 4, 0, 2, 1, 1, 0, 7, 40, 40, 40, 40, 2, 0};
    x = new SeaCloth();
    rule("3");
    for (int n = 0; n < texts.length; n++) {
      due("rule " + texts[n], rule(texts[n]), -1 - faults[n]);
      due("count(7)", x.count(7), 0);
      due("the rule ahead of it", x.thread(0, 0, 4), 103);
    }
    due("40 signs", rule("-" + ones), 0);
    due("their pull", x.thread(0, 0, 4), 100 - 1 + 19);
    due("four brackets", rule("((((c))))"), 0);
    due("an empty rule", rule(""), 0);
    due("its pull", x.thread(0, 0, 4), 100);
  }

  private static void pull(String text, int kind, int i, int pull) {
    due("rule " + text, rule(text), 0);
    due("pull by " + text, x.thread(kind, i, 4), 100 + pull);
  }

  private static void pulls() {
    x = new SeaCloth();
    cloth("3##..#.##.");
    String traits = "kioclesn";
    int[] ofPick2 = {0, 2, 2, 1, 3, 1, 1, 0};
    int[] ofEnd1 = {1, 1, 0, 0, 3, 0, 0, 0};
    for (int n = 0; n < 8; n++) {
      pull(traits.substring(n, n + 1), 0, 2, ofPick2[n]);
      pull(traits.substring(n, n + 1), 1, 1, ofEnd1[n]);
    }
    String[] texts = {"", "7/2", "-7/2", "7/-2", "7/0", "0/0", "2+3*4", "2-3-4", "8/2/2", "8/2*3", "7/2*2", "1<2", "2<1",
      "2<2", "2>1", "1>2", "2>2", "1+1=2", "1=2", "---3", "3--2", "-2*3", "2*-3", "-(2+1)*2", "(1<2)<3", "1-(1<2)", "007",
      "99", "100", "-99", "-100", "999", "2*(3+(4-(5*(1))))", "1+2<2*2", "-1<0", "3-2=1"};
    int[] pulls = {-1, 3, -3, -3, 0, 0, 14, -5, 2, 12, 6, 1, 0, 0, 1, 0, 0, 1, 0, -3, 5, -6, -6, -6, 1, 0, 7,
      99, 99, -99, -99, 99, 4, 1, 1, 1};
    for (int n = 0; n < texts.length; n++) {
      pull(texts[n], 0, 2, pulls[n]);
    }
    // 999 * 999 * 999 * 999 is -426416671 as ints.
    pull("999*999*999*999/999/999/9", 0, 0, -47);
    x.nights(9);
    pull("n", 0, 0, 2);
  }

  private static void sheets() {
    start(8, "3#########");
    due("sheet", x.sheet(2, 3, 1, 9), 1 + 2 + 3);
    isCloth("3#...#.##.");
    due("fewer entries", x.sheet(0, 1, -1, 0), 7);
    isCloth("3###......");
    due("more entries", x.sheet(1, 6, 5, 0), 15);
    isCloth("3#.##.##.#");
    due("bytes wrap", x.sheet(0, 2, Integer.MAX_VALUE, 1), 7);
    isCloth("3###......");
    due("n above 6", x.sheet(0, 7, 0, 0), -1);
    due("n above 6 of a missing one", x.sheet(3, 7, 0, 0), -1);
    due("another kind", x.sheet(4, 1, 0, 0), -1);
    due("another kind, n below 0", x.sheet(-1, -1, 0, 0), -1);
    due("n below 0", x.sheet(0, -1, 0, 0), -2);
    due("n below 0", x.sheet(2, Integer.MIN_VALUE, 0, 0), -2);
    isCloth("3###......");
    due("no entries", x.sheet(1, 0, 9, 9), 0);
    isCloth("3.........");
    x.sheet(2, 3, 7, 0);
    due("missing", x.sheet(3, -5, 1, 1), -3);
    isCloth("3.........");
    due("count(5)", x.count(5), 0);
  }

  // ---- nights, work

  private static void nightsAndWork() {
    start(9, "3#.#.#.");
    due("nights(0)", x.nights(0), 5);
    row(0, 0);
    due("nights(1)", x.nights(1), 4);
    row(1, 0);
    isCloth("3.#.");
    due("nights(60)", x.nights(60), 4);
    row(0, 0);
    due("count(2)", x.count(2), 61);
    due("nights(61)", x.nights(61), -1);
    due("nights(-1)", x.nights(-1), -1);
    due("count(2)", x.count(2), 61);
    row(0, 0);
    start(9, "3#.#.#.");
    rule("k*(5+i)");
    due("the last end goes first", x.nights(1), 4);
    isCloth("2#..#");
    due("then the one ahead, then none", x.nights(5), 3);
    row(0, 1);
    isCloth("1#.");
    start(9, "2##..");
    rule("0");
    due("of like ones a pick, the least", x.nights(1), 3);
    isCloth("2..");

    start(10, "2#..#");
    due("a pick", x.weaves(0, 1, 3), 3);
    isCloth("2#.##.#");
    due("an end", x.weaves(1, 0, 5), 3);
    isCloth("3.#.###..#");
    due("behind all", x.weaves(1, 3, 0), 4);
    isCloth("4.#.#####..##");
    due("another kind", x.weaves(2, 0, 0), -1);
    due("another kind", x.weaves(-1, 0, 0), -1);
    due("too far", x.weaves(0, 4, 0), -1);
    due("too far", x.weaves(1, 5, 0), -1);
    due("below 0", x.weaves(0, -1, 0), -1);
    due("v below 0", x.weaves(0, 0, -1), -1);
    due("v too great", x.weaves(0, 0, 16), -1);
    due("v too great", x.weaves(1, 0, 8), -1);
    due("v the greatest", x.weaves(1, 0, 7), 5);
    due("count(5)", x.count(5), 4);
    start(10, "1######");
    due("six already", x.weaves(0, 0, 1), -2);
    due("NONE first", x.weaves(0, 0, 2), -1);
    due("NONE first", x.weaves(0, 7, 0), -1);
    due("count(5)", x.count(5), 0);

    start(11, "3##..#.");
    due("an end", x.draws(1, 0), 2);
    isCloth("2#.#.");
    due("a pick", x.draws(0, 0), 1);
    isCloth("2#.");
    due("the last pick", x.draws(0, 0), -2);
    due("none such", x.draws(0, 1), -1);
    due("none such", x.draws(1, -1), -1);
    due("none such", x.draws(2, 0), -1);
    due("an end that is over", x.draws(1, 1), 1);
    due("the last end", x.draws(1, 0), -2);
    due("count(5)", x.count(5), 3);

    start(12, "2#..#");
    due("flips", x.flips(1, 0), 3);
    isCloth("2#.##");
    due("flips", x.flips(1, 0), 2);
    due("none such", x.flips(2, 0), -1);
    due("none such", x.flips(0, 2), -1);
    due("none such", x.flips(-1, 0), -1);
    due("count(5)", x.count(5), 2);

    start(13, "3#.....#..");
    due("picks", x.mirrors(0), 0);
    isCloth("3#.....#..");
    due("ends", x.mirrors(1), 2);
    isCloth("3..#.....#");
    due("another kind", x.mirrors(2), -1);
    due("another kind", x.mirrors(-1), -1);
    due("count(5)", x.count(5), 2);
    start(13, "2##.#.#..");
    due("picks", x.mirrors(0), 2);
    isCloth("2...#.###");

    works();
    undos();
  }

  private static void works() {
    start(14, "2#..#");
    due("all acts", work("w1003t00n1d10m0"), 5);
    row(0, 3);
    isCloth("2.#");
    due("count(2)", x.count(2), 1);
    due("count(5)", x.count(5), 1);
    due("undone as one", x.undo(), 0);
    isCloth("2#..#");
    due("count(2)", x.count(2), 0);
    due("nothing", work(""), 0);
    row(0, 4);
    due("count(5)", x.count(5), 0);
    due("refused at once", work("d02m0"), 0);
    row(1, 4);
    due("count(5)", x.count(5), 0);
    due("refused later", work("t00w0099t11"), 1);
    row(1, 4);
    isCloth("2...#");
    due("refused by -2", work("d00d00n9"), 1);
    row(1, 3);
    String[] texts = {"x", "n", "nx", "w2000", "w0", "w00", "w000", "w00x0", "d2", "d0", "d0x", "t0", "tx", "m2", "m",
      "n1n", "n1 ", "n1m1t001"};
    int[] faults = {0, 1, 1, 1, 2, 3, 4, 3, 1, 2, 2, 2, 1, 1, 1, 3, 2, 7};
    for (int n = 0; n < texts.length; n++) {
      due("work " + texts[n], work(texts[n]), -1 - faults[n]);
      due("count(7)", x.count(7), 0);
    }
    row(1, 3);
    due("nothing is done", x.count(2), 0);
    String sixty = "n1".repeat(30);
    due("60 signs", work(sixty), 30);
    due("61 signs", work(sixty + "n"), -61);
    due("62 signs", work(sixty + "n1"), -61);
    due("60 signs that end too early", work("n1".repeat(29) + "t0"), -61);
    due("80 signs with a fault", work("n1n1x" + sixty), -5);
    due("count(2)", x.count(2), 30);
  }

  private static void undos() {
    start(15, "2#..#");
    due("nothing yet", x.undo(), -1);
    x.nights(0);
    x.weaves(0, 0, 0);
    x.draws(0, 0);
    x.flips(0, 0);
    x.mirrors(1);
    work("m0");
    x.flips(9, 9);
    x.nights(-1);
    x.sheet(2, 6, 0, 0);
    due("count(5)", x.count(5), 6);
    for (int left = 5; left >= 0; left--) {
      due("undo", x.undo(), left);
    }
    isCloth("2#..#");
    due("nothing left", x.undo(), -1);
    for (int n = 0; n < 16; n++) {
      x.nights(1);
    }
    due("15 are kept", x.count(5), 15);
    for (int left = 14; left >= 0; left--) {
      due("undo", x.undo(), left);
    }
    due("the latest ones", x.count(2), 1);
    cloth("6....................................");
    for (int n = 0; n < 18; n++) {
      x.flips(n / 6, n % 6);
    }
    for (int left = 14; left >= 0; left--) {
      due("undo", x.undo(), left);
      due("cells then", x.count(3), left + 3);
    }
    isCloth("6###.................................");
    x.flips(0, 0);
    cloth("9");
    x.again(0);
    due("not forgotten by refused ones", x.undo(), 0);
  }

  // ---- what goes, what is left; words

  private static void whatGoes() {
    start(16, "3#.#.#.");
    due("next", x.next(), 0);
    row(102);
    rule("i+k*6");
    due("an end", x.next(), 8);
    row(108);
    rule("-k-99");
    x.draws(0, 1);
    due("the last pick", x.next(), -2);
    row(108);

    start(17, "3#.#.#.");
    due("later(0)", x.later(0), 5);
    row(2, 3, 5, 2);
    due("later(1)", x.later(1), 4);
    row(1, 3, 2);
    due("later(60)", x.later(60), 4);
    row(1, 3, 2);
    due("later(61)", x.later(61), -1);
    due("later(-1)", x.later(-1), -1);
    isCloth("3#.#.#.");
    due("count(2)", x.count(2), 0);
    rule("(n=3)*k*9+(n<3)");
    due("by the night", x.later(4), 3);
    row(1, 2, 1);

    start(18, "3#.#.#.");
    due("falls", x.falls(), 1);
    row(4);
    rule("k*(i=2)-9*(k=0)");
    due("falls", x.falls(), 2);
    row(3);
    start(18, "1#.");
    due("now", x.falls(), 0);
    row(3);
    start(18, "2#..#");
    rule("k");
    due("an end goes", x.falls(), 1);
    row(3);
    // -2 can't come about: a cloth that hangs together has two of each kind, so that each night one
    // of its threads goes, till there is but one of a kind.

    start(19, "3#.#.#.");
    due("rags", rags("2#..#"), 1);
    row(256);
    due("rags", rags("1#"), 3);
    row(194);
    due("itself", rags("3#.#.#."), 1);
    row(0);
    due("none", rags("2.##."), 1);
    row(64);
    due("none", rags("2...."), 0);
    row();
    due("a larger one", rags("4########"), 0);
    due("more picks", rags("1.#."), 0);
    x.hangs();
    due("fault", rags("2#"), -3);
    due("fault", rags(""), -1);
    row(1, 451);

    start(20, "3#.#.#.");
    due("lefts(0)", x.lefts(0), 1);
    row(1);
    due("lefts(1)", x.lefts(1), 5);
    row(5);
    due("lefts(2)", x.lefts(2), 6);
    row(9);
    due("lefts(3)", x.lefts(3), 2);
    row(6);
    due("lefts(4)", x.lefts(4), 0);
    row(0);
    due("lefts(5)", x.lefts(5), -1);
    due("lefts(-1)", x.lefts(-1), -1);
    row(0);
    start(20, "6####################################");
    due("all alike", x.lefts(4), 5);
    row(495);

    start(21, "4....#..#.##.####");
    due("a check's words", x.outlasts(), 4);
    row(15);
    x.weaves(0, 0, 1);
    due("with one that is near", x.outlasts(), 4);
    row(30);
    start(21, "3.....####");
    due("of as many the least", x.outlasts(), 2);
    row(5);
    start(21, "2#.#.");
    due("like ones", x.outlasts(), 1);
    row(1);
    start(21, "1#.");
    due("one cell", x.outlasts(), 1);
    row(1);

    promise = 22;
    due("words(4, 0)", x.words(4, 0), 4);
    row(0, 15);
    due("words(1, 0)", x.words(1, 0), 1);
    row(0, 0);
    due("words(2, 1)", x.words(2, 1), 1);
    row(1, 1);
    due("words(6, 6)", x.words(6, 6), 9);
    row(7, 62);
    due("words(3, 3)", x.words(3, 3), 2);
    row(3, 4);
    due("words(0, 0)", x.words(0, 0), -1);
    due("words(7, 0)", x.words(7, 0), -1);
    due("words(3, 4)", x.words(3, 4), -1);
    due("words(3, -1)", x.words(3, -1), -1);
    row(3, 4);
  }

  // ---- what holds

  private static void whatHolds() {
    start(23, "2##.#");
    due("loose", x.loose(), 129);
    row(1, 1);
    start(23, "2#..#");
    due("loose", x.loose(), 0);
    row(0, 0);

    start(24, "2##.#");
    due("sheds", x.sheds(), 0);
    row(0, 2);
    isCloth("2##.#");
    start(24, "2#.");
    due("a kind is gone", x.sheds(), 1);
    row(1, 1);
    start(24, "3##..####.");
    due("one falls", x.sheds(), 5);
    row(327, 1);
    start(24, "3#.#.##...");
    due("one, then another", x.sheds(), 4);
    row(195, 2);
    start(24, "2#..#");
    due("none is loose", x.sheds(), 4);
    row(195, 0);

    start(25, "3#.#.#.");
    due("hangs", x.hangs(), 1);
    row(1, 451);
    start(25, "1##");
    due("two uppermost", x.hangs(), 0);
    row(3, 0);
    start(25, "1..");
    due("an end", x.hangs(), 0);
    row(3, 64);
    start(25, "3#.#.#.###");
    due("a pick above a layer", x.hangs(), 0);
    row(2, 4);

    start(26, "3#.#.#.#.#");
    due("spares", x.spares(), 325);
    row(4);
    start(26, "2#..###");
    due("it hangs then", x.spares(), 4);
    row(1);
    start(26, "1.");
    due("one alone hangs", x.spares(), 65);
    row(2);
    start(26, "2##");
    due("none", x.spares(), 0);
    row(0);

    start(27, "2#..#");
    due("0", x.mends(), 0);
    row();
    start(27, "2#.##");
    due("1", x.mends(), 1);
    row(6);
    start(27, "2####");
    due("2", x.mends(), 2);
    row(0, 7);
    isCloth("2####");
    start(27, "3#########");
    x.hangs();
    due("by no two", x.mends(), -2);
    row(6, 0);
    x = new SeaCloth();
    due("one of each", x.mends(), -2);
    row();

    start(28, "3#.#.#.#.#");
    due("endures", x.endures(), 1);
    row(2, 2);
    start(28, "2#.##");
    due("not now", x.endures(), 0);
    row(0, 0);
    start(28, "2#..###");
    due("not now, though it would behind one", x.endures(), 0);
    row(0, 0);
    start(28, "3#.#.#.");
    due("endures", x.endures(), 1);
    row(1, 1);
    start(28, "4#.#..#.##.#..#.#");
    due("two of each", x.endures(), 2);
    row(5, 4);
  }

  // ---- how it looks

  private static void howItLooks() {
    start(29, "3#.....");
    due("differs", differs("3.....#"), 2);
    row(0, 1, 1);
    due("to the right", differs("3.#...."), 2);
    row(0, 0, 2);
    due("itself", differs("3#....."), 0);
    row(0, 0, 0);
    due("never the same", differs("3##...."), 1);
    row(1, 0, 0);
    due("others", differs("2#."), -100);
    due("others", differs("3#.."), -100);
    due("others", differs("2#....."), -100);
    due("fault", differs("3#...."), -7);
    due("fault", differs("x"), -1);
    row(1, 0, 0);
    start(29, "1#...");
    due("down", differs("1.#.."), 2);
    row(0, 3, 0);

    start(30, "2#.#.");
    due("looks", x.looks(), 1);
    row(0, 4, 4, 2);
    start(30, "2#.");
    due("not square", x.looks(), 1);
    row(0, 2, 2, -1);
    start(30, "3#.#.#.");
    due("ends", x.looks(), 2);
    row(6, 0, 6, -1);
    start(30, "2#..#");
    due("both", x.looks(), 12);
    row(4, 4, 0, 0);
    start(30, "2....");
    due("all", x.looks(), 15);
    row(0, 0, 0, 0);

    start(31, "2#..##..##.");
    due("repeats", x.repeats(), 2);
    row(2);
    start(31, "1##.");
    due("never", x.repeats(), 3);
    row(1);
    start(31, "3#.##.#");
    due("repeats", x.repeats(), 1);
    row(2);

    start(32, "3##..#.");
    due("runs", x.runs(), 5);
    row(2, 4, 2);
    start(32, "6######");
    due("runs", x.runs(), 1);
    row(6, 6, 1);

    start(33, "2####");
    due("twins", x.twins(), 2);
    row(0, 1);
    start(33, "2##..");
    due("twins", x.twins(), 1);
    row(6, 7);
    start(33, "1#.##");
    due("twins", x.twins(), 3);
    row(0, 2);
    start(33, "2#..#");
    due("none", x.twins(), 0);
    row();
  }

  // ---- a game; which it was

  private static void gamesAndTales() {
    start(34, "3#.#.#.");
    due("game", x.game(), 1);
    row(6);
    start(34, "3#.#.#.#.#");
    due("the other one wins", x.game(), 0);
    row();
    start(34, "2#.##");
    x.hangs();
    due("not together", x.game(), 0);
    row();

    start(35, "2##.#");
    int[] most = {1, 6, 5, 1, 5};
    for (int what = 0; what < 5; what++) {
      due("the least", x.told(what, 0), 1);
      due("the most", x.told(what, most[what]), 2);
      due("more", x.told(what, most[what] + 1), -1);
      due("below 0", x.told(what, -1), -1);
      promise = 36;
      due("forget", x.forget(), 2);
      due("count(4)", x.count(4), 0);
      promise = 35;
    }
    due("another what", x.told(5, 0), -1);
    due("another what", x.told(-1, 0), -1);
    for (int n = 1; n <= 12; n++) {
      due("told", x.told(1, 0), n);
    }
    due("12", x.told(1, 0), -1);
    due("count(4)", x.count(4), 12);
    promise = 36;
    due("forget", x.forget(), 12);
    due("forget", x.forget(), 0);

    start(37, "2##.#");
    due("all", x.fits(), 195);
    row(4);
    int[][] tales = {{0, 0, 3}, {0, 1, 192}, {1, 0, 195}, {1, 1, 67}, {1, 2, 1}, {1, 3, 0}, {2, 0, 195}, {2, 1, 66},
      {2, 2, 0}, {3, 0, 66}, {3, 1, 129}, {4, 0, 65}, {4, 1, 195}};
    for (int[] tale : tales) {
      x.told(tale[0], tale[1]);
      due("fits " + tale[0] + ", " + tale[1], x.fits(), tale[2]);
      row(Integer.bitCount(tale[2]));
      x.forget();
    }
    x.told(1, 1);
    x.told(3, 1);
    due("both", x.fits(), 1);
    cloth("2....");
    due("of the cloth as it is", x.fits(), 192);

    start(38, "2##.#");
    due("asks", x.asks(), 0);
    row(2);
    x.told(3, 1);
    due("asks", x.asks(), 0);
    row(1);
    x.told(0, 0);
    due("one", x.asks(), 0);
    row(1);
    x.told(0, 1);
    due("none", x.asks(), -2);
    row(1);
    start(38, "1######");
    x.told(0, 0);
    due("by its number", x.asks(), 42);
    row(3);
    start(38, "2#....#");
    x.told(0, 0);
    due("by its cells", x.asks(), 11);
    row(2);
    start(38, "6############.######.####");
    x.told(0, 0);
    due("over in six", x.asks(), 16);
    row(2);
    start(38, "6#.#.#.#.#.#.#.#..##.#..#");
    x.told(0, 0);
    due("five changes", x.asks(), 25);
    row(2);
  }

  // ---- odds, laws, rests, years

  private static void oddsAndYears() {
    start(39, "3#.#.#.");
    due("odds(0)", x.odds(0), 0);
    row(1, 1);
    due("odds(10)", x.odds(10), 0);
    row(0, 1);
    due("odds(5)", x.odds(5), 0);
    row(1, 4);
    due("odds(1)", x.odds(1), 0);
    row(9027, 12500);
    due("odds(11)", x.odds(11), -1);
    due("odds(-1)", x.odds(-1), -1);
    row(9027, 12500);
    x.flips(1, 1);
    due("another cloth", x.odds(0), 0);
    row(0, 1);

    start(40, "2#..#");
    due("the same", law(""), 0);
    row(3, 3);
    due("an end first", law("k"), 1);
    row(3, 3);
    due("a pick first, as by the rule", law("0-k"), 0);
    due("fault", law("c+"), -10002);
    due("fault", law("z"), -10000);
    due("41 signs", law("-".repeat(40) + "c"), -10040);
    row(3, 3);
    isCloth("2#..#");
    due("the rule yet", x.next(), 0);
    start(40, "2#..##.");
    rule("k");
    due("each its own way", law("0-k"), 2);
    row(3, 4);

    start(40, "6######");
    rule("0");
    due("ten nights and no more", law("k*(n=3)"), 1);
    row(6, 7);

    promise = 41;
    due("rests(0)", x.rests(0), 82);
    row(0, 0);
    due("rests(17)", x.rests(17), 2);
    row(8, 9);
    due("rests(18)", x.rests(18), 1);
    row(9, 9);
    due("rests(20)", x.rests(20), 1);
    row(9, 9);
    due("rests(21)", x.rests(21), -1);
    due("rests(-1)", x.rests(-1), -1);
    row(9, 9);

    start(42, "1#");
    boolean[] seen = new boolean[4];
    for (int seed = 0; seed < 40; seed++) {
      int drawn = (seed * 1103515245 + 12345 >>> 16) % 4;
      seen[drawn] = true;
      due("years(" + seed + ", 1)", x.years(seed, 1), drawn == 3 ? 3 : 2);
      if (drawn < 3) {
        row(drawn == 2 ? 0 : 1, 0);
      }
    }
    for (boolean one : seen) {
      due("each is drawn", one, true);
    }
    isCloth("1#");
    due("count(2)", x.count(2), 0);
    due("count(5)", x.count(5), 0);
    due("years(1, 0)", x.years(1, 0), -1);
    due("years(1, 61)", x.years(1, 61), -1);
    due("years(-1, 60)", x.years(-1, 60) >= 2, true);
  }

  // ---- kept

  private static void keptAndCounted() {
    start(43, "2#..#");
    due("keep(3)", x.keep(3), false);
    due("keep(-1)", x.keep(-1), false);
    due("keep(2)", x.keep(2), true);
    x.nights(1);
    due("keep(0)", x.keep(0), true);
    promise = 44;
    due("nothing kept", x.again(1), false);
    due("another number", x.again(3), false);
    due("another number", x.again(-1), false);
    due("count(5)", x.count(5), 1);
    due("again(2)", x.again(2), true);
    isCloth("2#..#");
    due("count(2)", x.count(2), 0);
    due("count(5)", x.count(5), 0);
    due("again(0)", x.again(0), true);
    isCloth("2.#");
    due("count(2)", x.count(2), 1);
    due("again(2)", x.again(2), true);
    x.flips(0, 0);
    promise = 43;
    due("kept anew", x.keep(2), true);
    x.flips(0, 0);
    promise = 44;
    due("again(2)", x.again(2), true);
    isCloth("2...#");
    cloth("x");
    due("not told anew", x.again(0), true);
    cloth("2#..#");
    due("told anew", x.again(0), false);
    due("told anew", x.again(2), false);

    start(45, "3#.#.#.");
    x.nights(1);
    x.told(0, 0);
    x.told(0, 0);
    text("abcde");
    long[] counts = {1, 3, 1, 1, 2, 1, 2, 5};
    for (int what = 0; what < 8; what++) {
      due("count(" + what + ")", x.count(what), counts[what]);
    }
    due("count(8)", x.count(8), -100);
    due("count(-1)", x.count(-1), -100);

    start(46, "3#.#.#.");
    throwsAtRow(0);
    x.later(0);
    due("row(3)", x.row(3), 2);
    throwsAtRow(4);
    throwsAtRow(-1);
    throwsAtRow(Integer.MIN_VALUE);
  }

  private static void textIsEmptied() {
    promise = 2;
    String[] texts = {"2#..#", "c", "n1"};
    for (String one : texts) {
      for (int call = 0; call < 6; call++) {
        x = new SeaCloth();
        text(one);
        if (call == 0) x.cloth();
        if (call == 1) x.rule();
        if (call == 2) x.work();
        if (call == 3) x.rags();
        if (call == 4) x.differs();
        if (call == 5) x.law();
        due("the text is empty behind call " + call, x.count(7), 0);
      }
    }
  }

  private static void refusalsChangeNothing() {
    start(2, "3#.#.#.");
    x.nights(1);
    x.keep(1);
    x.later(0);
    text("hello");
    x.nights(61);
    x.weaves(0, 5, 0);
    x.draws(0, 0);
    x.flips(3, 3);
    x.mirrors(3);
    x.later(99);
    x.lefts(9);
    x.words(9, 0);
    x.told(9, 9);
    x.odds(99);
    x.rests(99);
    x.years(0, 0);
    x.keep(9);
    x.again(0);
    x.end(6);
    isCloth("3.#.");
    row(1, 3, 2);
    due("count(7)", x.count(7), 5);
    due("count(5)", x.count(5), 1);
    due("count(2)", x.count(2), 1);
  }

  // ---- every sign of a text

  /** Behind each beginning of a text just the named signs can stand, of all that there are. */
  private static void everySign() {
    String things = "kioclesn0123456789(-";
    String joins = "+-*/<>=";
    String digits = "0123456789";
    promise = 5;
    String[][] rules = {{"", things}, {"0", joins + digits}, {"07", joins + digits}, {"007", joins}, {"n", joins},
      {"-", things}, {"--", things}, {"(", things}, {"((((", things.replace("(", "")}, {"(1", joins + digits + ")"},
      {"(k", joins + ")"}, {"(999", joins + ")"}, {"(1)", joins}, {"((1)", joins + ")"}, {"1+", things}, {"1*-", things},
      {"i<", things}, {"i<1", "+-*/" + digits}, {"i=o", "+-*/"}, {"i>(o", joins + ")"}, {"i>(o=1)", "+-*/"},
      {"(i<1", "+-*/)" + digits}, {"(i<1)", joins}};
    for (String[] one : rules) {
      behindOf("rule", one[0], one[1]);
      behindOf("law", one[0], one[1]);
    }
    promise = 4;
    String[][] cloths = {{"", "123456"}, {"1", "#."}, {"3#.", "#."}, {"2#..#", "#."}, {"1######", ""}, {"2............", ""}};
    for (String[] one : cloths) {
      behindOf("cloth", one[0], one[1]);
      behindOf("rags", one[0], one[1]);
      behindOf("differs", one[0], one[1]);
    }
    promise = 14;
    String[][] works = {{"", "nwdtm"}, {"n", digits}, {"n0", "nwdtm"}, {"w", "01"}, {"w1", digits}, {"w10", digits},
      {"w100", digits}, {"w1003", "nwdtm"}, {"d", "01"}, {"d0", digits}, {"d00", "nwdtm"}, {"t", digits}, {"t0", digits},
      {"t00", "nwdtm"}, {"m", "01"}, {"m1", "nwdtm"}};
    for (String[] one : works) {
      behindOf("work", one[0], one[1]);
    }
  }

  private static void behindOf(String call, String beginning, String signs) {
    for (int sign = 0; sign < 256; sign++) {
      x = new SeaCloth();
      text(beginning + (char) sign);
      int answer = answerOf(call);
      boolean stands = answer != (call.equals("law") ? -10000 : -1) - beginning.length();
      due(call + " by " + beginning + " and the sign " + sign + " can stand", stands, signs.indexOf(sign) >= 0);
    }
  }

  private static int answerOf(String call) {
    switch (call) {
      case "rule": return x.rule();
      case "law": return x.law();
      case "cloth": return x.cloth();
      case "rags": return x.rags();
      case "differs": return x.differs();
      default: return x.work();
    }
  }
}
