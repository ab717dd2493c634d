import java.util.HashSet;
import java.util.NoSuchElementException;
import java.util.Set;

/**
 * Each sentence of the document that names a boundary: the last value that is taken and the first
 * that is not, the empty and the full, the refused call with its answer and what stays behind it,
 * the call that throws. What fails names its promise and the sentence.
 */
public final class SeaClothEdges {
  /** A call, or a few, on an object. */
  private interface Call {
    long of(SeaCloth y);
  }

  private static final int LEAST = Integer.MIN_VALUE;
  private static final int GREATEST = Integer.MAX_VALUE;
  private static final String FULL = "6" + "#.##.#".repeat(6);

  private static int wrong = 0;
  private static int checks = 0;
  private static int promise = 0;
  private static String sentence = "";
  private static String cloth = "1#";
  private static SeaCloth x = new SeaCloth();

  public static void main(String[] args) {
    newObject();
    manyCalls();
    signs();
    ends();
    clothTaken();
    clothRefused();
    clothForgets();
    ruleTaken();
    ruleRefused();
    ruleBehindRefused();
    expressions();
    things();
    cells();
    threads();
    sheets();
    sheetRefused();
    nights();
    nightsTaken();
    weaves();
    weavesRefused();
    draws();
    flips();
    mirrors();
    workTaken();
    workRefused();
    workDone();
    undos();
    undoForgets();
    next();
    later();
    falls();
    rags();
    lefts();
    outlasts();
    words();
    loose();
    sheds();
    hangs();
    spares();
    mends();
    endures();
    differs();
    looks();
    repeats();
    runs();
    twins();
    game();
    told();
    forget();
    fits();
    asks();
    odds();
    law();
    rests();
    years();
    yearsWoven();
    yearsByCalls();
    keeps();
    agains();
    counts();
    rows();
    questions();
    askedAgain();
    System.out.println(checks + " checks, " + wrong + " wrong");
    if (wrong != 0) {
      System.exit(1);
    }
  }

  // ---- what is due

  private static void says(int number, String words) {
    promise = number;
    sentence = words;
  }

  private static void due(String call, long got, long want) {
    checks++;
    if (got != want) {
      fault(call + " answered " + got + ", due is " + want);
    }
  }

  private static void due(String call, boolean got, boolean want) {
    due(call, got ? 1 : 0, want ? 1 : 0);
  }

  private static void same(String what, String got, String want) {
    checks++;
    if (!got.equals(want)) {
      fault(what + ": " + got + ", due is " + want);
    }
  }

  private static void fault(String what) {
    wrong++;
    System.out.println("promise " + promise + " (" + sentence + "): cloth " + cloth + ": " + what);
  }

  private static void row(long... want) {
    StringBuilder s = new StringBuilder();
    for (long number : want) {
      s.append(number).append(' ');
    }
    same("the ROW", rowOf(x), s.toString());
    due("count(6)", x.count(6), want.length);
  }

  private static void looks(String want) {
    same("THE CLOTH", clothOf(x), want);
  }

  // ---- calls on an object

  private static void tell(SeaCloth y, String text) {
    y.end(0);
    for (int p = 0; p < text.length(); p += 4) {
      int v = 0;
      for (int k = 0; k < 4; k++) {
        v = v << 8 | (p + k < text.length() ? text.charAt(p + k) : 0);
      }
      y.sign(v);
    }
    y.end(text.length());
  }

  private static int cloth(String text) {
    tell(x, text);
    return x.cloth();
  }

  private static int rule(String text) {
    tell(x, text);
    return x.rule();
  }

  private static int work(String text) {
    tell(x, text);
    return x.work();
  }

  private static int rags(String text) {
    tell(x, text);
    return x.rags();
  }

  private static int differs(String text) {
    tell(x, text);
    return x.differs();
  }

  private static int law(String text) {
    tell(x, text);
    return x.law();
  }

  private static String rowOf(SeaCloth y) {
    StringBuilder s = new StringBuilder();
    int size = y.count(6);
    for (int i = 0; i < size; i++) {
      s.append(y.row(i)).append(' ');
    }
    return s.toString();
  }

  /** THE CLOTH by its PICKS; its ENDS are looked at, too. */
  private static String clothOf(SeaCloth y) {
    StringBuilder s = new StringBuilder().append(y.count(1));
    int[] ends = new int[y.count(1)];
    for (int p = 0; p < y.count(0); p++) {
      int cells = y.thread(0, p, 0);
      for (int e = 0; e < ends.length; e++) {
        s.append((cells >>> e & 1) != 0 ? '#' : '.');
        ends[e] |= (cells >>> e & 1 ^ 1) << p;
      }
      s.append(cells >>> ends.length != 0 ? " with more cells than ends" : "");
    }
    for (int e = 0; e < ends.length; e++) {
      s.append(y.thread(1, e, 0) != ends[e] ? " but for end " + e : "");
    }
    return s.toString();
  }

  private static String told(SeaCloth y) {
    return clothOf(y) + " at night " + y.count(2);
  }

  /** All that can be seen of an object, its ROW too or not; the object is used up by it. */
  private static String all(SeaCloth y, boolean rowToo) {
    StringBuilder s = new StringBuilder(rowToo ? "row " + rowOf(y) : "");
    s.append("; text of ").append(y.count(7)).append("; cloth ").append(told(y)).append("; pulls");
    for (int t = 0; t < y.count(0) + y.count(1); t++) {
      int kind = t < y.count(0) ? 0 : 1;
      s.append(' ').append(y.thread(kind, t - kind * y.count(0), 4));
    }
    s.append("; tales ").append(y.count(4)).append(", fitting ").append(y.fits());
    for (int i = y.count(5); i > 0; i--) {
      s.append("; undone ").append(y.undo()).append(": ").append(told(y));
    }
    for (int i = 0; i < 3; i++) {
      s.append("; kept ").append(y.again(i)).append(": ").append(told(y));
    }
    return s.append("; the text ").append(y.cloth()).append(": ").append(told(y)).toString();
  }

  /** An object that has something of all: nights, acts, kept cloths, a rule, tales, a row, a text. */
  private static SeaCloth used() {
    SeaCloth y = new SeaCloth();
    tell(y, cloth);
    y.cloth();
    y.keep(1);
    tell(y, "0");
    y.rule();
    int threads = y.count(0) + y.count(1);
    int taken = y.thread(0, 0, 0);
    if (y.nights(1) < threads) {
      y.weaves(0, 0, taken);
    }
    y.keep(0);
    y.flips(0, 0);
    y.flips(0, 0);
    y.told(1, 1);
    y.told(4, 4);
    y.words(6, 1);
    tell(y, "c*2-i+n");
    y.rule();
    tell(y, "2.##.");
    return y;
  }

  /** From here on the cloth is this one. */
  private static void begin(String text) {
    cloth = text;
    x = used();
    looks(text);
  }

  /** The same with the first rule, in its first night. */
  private static void fresh(String text) {
    cloth = text;
    x = new SeaCloth();
    cloth(text);
    looks(text);
  }

  /** A call is refused: all stays as it was. */
  private static void refused(String call, Call c, long answer) {
    SeaCloth y = used();
    due(call, c.of(y), answer);
    same("behind " + call, all(y, true), all(used(), true));
  }

  /** A call that reads a text is refused: all stays as it was, but the text is empty. */
  private static void refused(String call, String text, Call c, long answer) {
    SeaCloth y = used();
    tell(y, text);
    due(call + " of " + text, c.of(y), answer);
    SeaCloth z = used();
    z.end(0);
    same("behind " + call + " of " + text, all(y, true), all(z, true));
  }

  private static void thrown(String call, Call c) {
    SeaCloth y = used();
    boolean thrown = false;
    try {
      c.of(y);
    } catch (NoSuchElementException e) {
      thrown = e.getClass() == NoSuchElementException.class;
    }
    due(call + " throws", thrown, true);
    same("behind " + call, all(y, true), all(used(), true));
  }

  /** A question changes nothing but the row. */
  private static void question(String call, Call c) {
    SeaCloth y = used();
    c.of(y);
    same("behind " + call, all(y, false), all(used(), false));
  }

  // ---- a cloth: promises 1 to 8

  private static void newObject() {
    says(1, "One PICK and one END, the PICK OVER");
    cloth = "1#";
    x = new SeaCloth();
    looks("1#");
    due("cell(0, 0)", x.cell(0, 0), 1);
    says(1, "NIGHT (at first 0)");
    due("count(2)", x.count(2), 0);
    says(1, "nothing is told, kept, done as yet");
    for (int what = 3; what < 8; what++) {
      due("count(" + what + ")", x.count(what), what == 3 ? 1 : 0);
    }
    due("undo()", x.undo(), -1);
    for (int i = 0; i < 3; i++) {
      due("again(" + i + ")", x.again(i), false);
    }
    due("forget()", x.forget(), 0);
    due("cloth() of no text", x.cloth(), -1);
    says(1, "THE RULE (at first none: c-i)");
    fresh("3#.#.#.");
    long[] pulls = {2, 1, 1, 0, -1};
    for (int t = 0; t < 5; t++) {
      due("pull of thread " + t, x.thread(t / 2 - t / 4, t < 2 ? t : t - 2, 4), 100 + pulls[t]);
    }
    says(1, "NONE = -1");
    due("NONE", SeaCloth.NONE, -1);
  }

  private static void manyCalls() {
    says(1, "An object is used for at most 512 calls after it has been made (the last of these)");
    fresh("1#");
    SeaCloth y = new SeaCloth();
    for (int n = 1; n < 512; n++) {
      due("flips(0, 0) as call " + n, y.flips(0, 0), (n + 1) % 2);
    }
    due("count(5) as call 512", y.count(5), 15);
    y = new SeaCloth();
    for (int n = 1; n < 512; n++) {
      due("nights(60) as call " + n, y.nights(60), 2);
    }
    due("count(2) as call 512", y.count(2), 511 * 60);
  }

  private static void signs() {
    says(2, "Four signs come behind THE TEXT, of v the highest byte first");
    fresh("1.");
    due("sign()", x.sign('5' << 24 | '#' << 16 | '.' << 8 | '.'), 4);
    due("sign()", x.sign('#' << 24 | '.' << 16 | '#' << 8 | '.'), 8);
    due("end(6)", x.end(6), true);
    due("cloth()", x.cloth(), 1);
    looks("5#..#.");
    says(2, "how many it has");
    for (int v : new int[] {0, -1, LEAST, GREATEST, 0xe9e9e9e9}) {
      tell(x, "abc");
      due("sign(" + v + ")", x.sign(v), 7);
      due("count(7)", x.count(7), 7);
    }
    says(2, "Refused: there would be more than 80");
    tell(x, "2#..#" + "#".repeat(71));
    due("sign() behind 76", x.sign(0), 80);
    for (int had = 80; had > 76; had--) {
      x.end(had);
      due("sign() behind " + had, x.sign(0x39393939), -1);
      due("count(7)", x.count(7), had);
    }
    due("end(76)", x.end(76), true);
    due("sign() behind 76", x.sign(0x39393939), 80);
    x.end(5);
    due("what was told ahead", x.cloth(), 2);
    looks("2#..#");
    says(2, "a refused call changes nothing but THE TEXT, which a call that reads it empties");
    begin("3#.#.#.");
    refused("sign() behind 80", "n1".repeat(40), y -> {
      int answer = y.sign(0);
      y.work();
      return answer;
    }, -1);
  }

  private static void ends() {
    says(3, "THE TEXT has its first n signs alone: true");
    fresh("1#");
    tell(x, "2##..##");
    due("end(7)", x.end(7), true);
    due("count(7)", x.count(7), 7);
    due("end(5)", x.end(5), true);
    due("count(7)", x.count(7), 5);
    due("cloth()", x.cloth(), 2);
    looks("2##..");
    tell(x, "2##..##");
    due("end(0)", x.end(0), true);
    due("count(7)", x.count(7), 0);
    due("end(0) of none", x.end(0), true);
    tell(x, "#".repeat(80));
    due("end(80)", x.end(80), true);
    due("count(7)", x.count(7), 80);
    says(3, "false if it has not so many, or n is below 0");
    for (int n : new int[] {81, -1, LEAST, GREATEST}) {
      due("end(" + n + ")", x.end(n), false);
      due("count(7)", x.count(7), 80);
    }
    x.end(0);
    due("end(1) of none", x.end(1), false);
    begin("3#.#.#.");
    for (int n : new int[] {6, -1, LEAST, GREATEST}) {
      refused("end(" + n + ")", y -> y.end(n) ? 1 : 0, 0);
    }
  }

  private static void clothTaken() {
    says(4, "PICKS and ENDS, 1 to 6 each: how many PICKS");
    for (int wide = 1; wide <= 6; wide++) {
      for (int picks = 1; picks <= 6; picks++) {
        fresh("1#");
        String text = wide + "##.#..#.".repeat(5).substring(0, picks * wide);
        due("cloth() of " + text, cloth(text), picks);
        looks(text);
        due("count(7)", x.count(7), 0);
      }
    }
    says(4, "a digit (ENDS, 1 .. 6), then for each PICK as many signs # (OVER) or . (UNDER)");
    fresh("3#.....");
    due("cell(0, 0)", x.cell(0, 0), 1);
    due("cell(0, 1)", x.cell(0, 1), 0);
    due("cell(1, 0)", x.cell(1, 0), 0);
  }

  private static void clothRefused() {
    cloth = "3#.#.#.";
    Call call = y -> y.cloth();
    says(4, "-1 - p: the sign at p can't stand there (ENDS, 1 .. 6)");
    for (String first : new String[] {"0", "7", "8", "9", "/", ":", "#", ".", "\u00b1", "\u0000", " "}) {
      refused("cloth()", first + "######", call, -1);
    }
    says(4, "-1 - p: the sign at p can't stand there (# or .; no signs between)");
    for (String other : new String[] {"\"", "$", "-", "/", "2", " ", "\n", "\u00a3", "\u0000"}) {
      refused("cloth()", "2" + other + "###", call, -2);
      refused("cloth()", "2##" + other + "#", call, -4);
      refused("cloth()", "2###" + other, call, -5);
      refused("cloth()", "1######" + other, call, -8);
    }
    says(4, "its end, if it ends too early");
    refused("cloth()", "", call, -1);
    for (int wide = 1; wide <= 6; wide++) {
      refused("cloth()", "" + wide, call, -2);
    }
    says(4, "its end, if it ends too early, within a PICK, too");
    for (int wide = 2; wide <= 6; wide++) {
      for (int picks = 1; picks <= 6; picks++) {
        refused("cloth()", wide + "#".repeat(picks * wide - 1), call, -1 - picks * wide);
        refused("cloth()", wide + ".".repeat(picks * wide - wide + 1), call, -1 - (picks * wide - wide + 2));
      }
    }
    says(4, "one behind the sixth PICK: at it");
    for (int wide = 1; wide <= 6; wide++) {
      for (String behind : new String[] {"#", ".", "##", "x", "#".repeat(40)}) {
        refused("cloth()", wide + ".".repeat(6 * wide) + behind, call, -1 - (6 * wide + 1));
      }
    }
  }

  private static void clothForgets() {
    says(4, "NIGHT is 0");
    begin("3#.#.#.");
    due("count(2) ahead", x.count(2), 1);
    due("cloth()", cloth("2#..#"), 2);
    due("count(2)", x.count(2), 0);
    says(4, "nothing can be undone");
    due("count(5)", x.count(5), 0);
    due("undo()", x.undo(), -1);
    says(4, "nothing is kept");
    for (int i = 0; i < 3; i++) {
      due("again(" + i + ")", x.again(i), false);
    }
    looks("2#..#");
    says(4, "no other thing is as new (the rule, what was told, the ROW)");
    due("pull", x.thread(0, 1, 4), 100 + 2 - 1);
    due("count(4)", x.count(4), 2);
    row(1, 56);
  }

  private static void ruleTaken() {
    says(5, "THE TEXT is THE RULE (an empty one: none): 0");
    begin("3#.#.#.");
    due("rule() of 7", rule("7"), 0);
    due("its pull", x.thread(0, 0, 4), 107);
    due("count(7)", x.count(7), 0);
    due("rule() of none", rule(""), 0);
    due("its pull", x.thread(0, 0, 4), 102);
    due("its pull", x.thread(0, 1, 4), 101);
    says(5, "a text of at most 40 signs");
    String most = "-".repeat(39) + "1";
    due("rule() of 40", rule(most), 0);
    due("its pull", x.thread(0, 0, 4), 99);
    due("rule() of 39", rule(most.substring(1)), 0);
    due("its pull", x.thread(0, 0, 4), 101);
    due("rule() of 40", rule("1+".repeat(19) + "12"), 0);
    due("its pull", x.thread(0, 0, 4), 131);
    due("rule() of 39", rule("(((1)))+".repeat(5).substring(0, 39)), 0);
    due("its pull", x.thread(0, 0, 4), 105);
    says(5, "nothing else changes");
    looks("3#.#.#.");
    due("count(2)", x.count(2), 1);
    due("count(5)", x.count(5), 4);
    row(1, 56);
  }

  private static void ruleRefused() {
    cloth = "3#.#.#.";
    Call call = y -> y.rule();
    says(5, "-1 - p: the sign at p can't stand there");
    String[] texts = {"x", "\u00eb", "+1", "*1", "/1", "<1", "=1", ")1", "1x", "1 ", "c1", "1c", "cc", "1(", "c(", "(1)1",
      "(1)c", "(1)(1)", "1++1", "1*/1", "1-+1", "1<>1", "()", "(+1)", "1)", "(1))", "1+)", "k.", "1~", "~1", ":", "1:",
      "12:", "1/:", "c\u00ff", "1\u0000"};
    int[] faults = {0, 0, 0, 0, 0, 0, 0, 0, 1, 1, 1, 1, 1, 1, 1, 3, 3, 3, 2, 2, 2, 2, 1, 1, 1, 3, 2, 1, 1, 0, 0, 1, 2, 2,
      1, 1};
    for (int n = 0; n < texts.length; n++) {
      refused("rule()", texts[n], call, -1 - faults[n]);
    }
    says(5, "its end, if it ends too early");
    for (String text : new String[] {"-", "---", "(", "((((", "1+", "c*", "1<", "1-", "(1", "(1+", "((1)", "-(k"}) {
      refused("rule()", text, call, -1 - text.length());
    }
    says(5, "40, if it has more and the first 40 could go on or end");
    String ends = "-".repeat(39) + "1";
    String goesOn = "1+".repeat(20);
    refused("rule()", ends + "+", call, -41);
    refused("rule()", ends + "x", call, -41);
    refused("rule()", ends + "1", call, -41);
    refused("rule()", goesOn + "1", call, -41);
    refused("rule()", goesOn + ")", call, -41);
    refused("rule()", ends + ends, call, -41);
    refused("rule()", "(" + goesOn.substring(0, 38) + "1" + ")", call, -41);
    says(5, "its end, if it ends too early (of 40 signs)");
    refused("rule()", goesOn, call, -41);
    refused("rule()", "(" + goesOn.substring(0, 38) + "1", call, -41);
    says(5, "-1 - p: the sign at p can't stand there (ahead of the 40th)");
    refused("rule()", "-".repeat(39) + "x" + "1111", call, -40);
    refused("rule()", "-".repeat(39) + "x", call, -40);
    refused("rule()", "x" + ends + ends.substring(1), call, -1);
  }

  private static void ruleBehindRefused() {
    says(5, "a text that is refused leaves nothing behind for the next");
    for (String ahead : new String[] {"((((1", "(1<2", "1<2", "1<", "-", "2*", "1+(2*-", "123x", "(-(-(-(-", "x"}) {
      begin("3#.#.#.");
      rule(ahead);
      due("rule() of 1) behind " + ahead, rule("1)"), -2);
      rule(ahead);
      due("rule() of 1<2 behind " + ahead, rule("1<2"), 0);
      due("its pull", x.thread(0, 0, 4), 101);
      rule(ahead);
      due("rule() of ((((5)))) behind " + ahead, rule("((((5))))"), 0);
      due("its pull", x.thread(0, 0, 4), 105);
      law(ahead);
      due("the rule behind law()", x.thread(0, 0, 4), 105);
      due("law() of 4 behind " + ahead, law("4"), 0);
      rule(ahead);
      due("rule() of 45 behind " + ahead, rule("45"), 0);
      due("its pull", x.thread(0, 0, 4), 145);
      rule(ahead);
      due("rule() of none behind " + ahead, rule(""), 0);
      due("its pull", x.thread(0, 0, 4), 102);
    }
  }

  private static void pull(String text, int kind, int i, int want) {
    due("rule() of " + text, rule(text), 0);
    due("pull of " + kind + ", " + i + " by " + text, x.thread(kind, i, 4), 100 + want);
  }

  private static void expressions() {
    fresh("3##..#.##.");
    says(5, "< > = bind least (two; 1 or 0)");
    String[] texts = {"1<2", "2<2", "3<2", "2>1", "2>2", "1>2", "2=2", "1=2", "2=1", "1+1=2", "2=3-1", "2*3>5", "1<2*3",
      "-1<0", "0>-1", "1-1<1", "1<(2<3)", "(1<2)<3", "(2<1)=(3<1)", "1+(1<2)<3"};
    int[] due = {1, 0, 0, 1, 0, 0, 1, 0, 0, 1, 1, 1, 1, 1, 1, 1, 0, 1, 1, 1};
    for (int n = 0; n < texts.length; n++) {
      pull(texts[n], 0, 0, due[n]);
    }
    says(5, "not one behind the other");
    cloth = "3##..#.##.";
    for (String first : new String[] {"<", ">", "="}) {
      for (String second : new String[] {"<", ">", "="}) {
        refused("rule()", "1" + first + "2" + second + "3", y -> y.rule(), -4);
        refused("rule()", "1" + first + "2+1" + second + "3", y -> y.rule(), -6);
        refused("rule()", "1" + first + "(2)" + second + "3", y -> y.rule(), -6);
        refused("rule()", "(1" + first + "2" + second + "3)", y -> y.rule(), -5);
      }
    }
    says(5, "then + - (from the left)");
    pull("7-2-3", 0, 0, 2);
    pull("7-2+3", 0, 0, 8);
    pull("7+2-3", 0, 0, 6);
    pull("7-2*3", 0, 0, 1);
    pull("7+6/3", 0, 0, 9);
    says(5, "then * / (from the left; cut to 0)");
    pull("24/4/2", 0, 0, 3);
    pull("24/4*2", 0, 0, 12);
    pull("7*3/2", 0, 0, 10);
    pull("7/2*3", 0, 0, 9);
    pull("-7/2", 0, 0, -3);
    pull("7/-2", 0, 0, -3);
    pull("-7/-2", 0, 0, 3);
    pull("-1/2", 0, 0, 0);
    says(5, "by 0: 0");
    pull("7/0", 0, 0, 0);
    pull("0/0", 0, 0, 0);
    pull("-7/0+1", 0, 0, 1);
    pull("7/(1-1)", 0, 0, 0);
    says(5, "then - ahead of a thing (any many)");
    pull("-5", 0, 0, -5);
    pull("--5", 0, 0, 5);
    pull("---5", 0, 0, -5);
    pull("2*-3", 0, 0, -6);
    pull("2--3", 0, 0, 5);
    pull("-2+3", 0, 0, 1);
    pull("-(2+3)", 0, 0, -5);
    pull("-o*3", 0, 0, -6);
    pull("-" + "-".repeat(37) + "12", 0, 0, 12);
    says(5, "As ints");
    pull("999*999*999*999/999/999/9", 0, 0, -47);
    pull("128*256*256*256/128/256/256/-64", 0, 0, 4);
  }

  private static void things() {
    fresh("3##..#.##.");
    says(5, "a NUMBER of 1 to 3 digits");
    pull("0", 0, 0, 0);
    pull("9", 0, 0, 9);
    pull("09", 0, 0, 9);
    pull("98", 0, 0, 98);
    pull("007", 0, 0, 7);
    pull("999-998", 0, 0, 1);
    cloth = "3##..#.##.";
    refused("rule()", "1234", y -> y.rule(), -4);
    refused("rule()", "0000", y -> y.rule(), -4);
    refused("rule()", "c+1234", y -> y.rule(), -6);
    says(5, "an EXPRESSION in ( ) (at most 4 in one another)");
    pull("((((7))))", 0, 0, 7);
    pull("((((7))))+((((8))))", 0, 0, 15);
    pull("(1+(1+(1+(1+3))))", 0, 0, 7);
    refused("rule()", "(((((7)))))", y -> y.rule(), -5);
    refused("rule()", "(((-(7))))+(((((7)))))", y -> y.rule(), -16);
    says(5, "put to -99 .. 99");
    pull("98", 0, 0, 98);
    pull("99", 0, 0, 99);
    pull("100", 0, 0, 99);
    pull("999*999", 0, 0, 99);
    pull("-98", 0, 0, -98);
    pull("-99", 0, 0, -99);
    pull("-100", 0, 0, -99);
    pull("-999*999", 0, 0, -99);
    says(5, "k its kind, i its number, o .. c .. l .. (of the first, of the last)");
    pull("k", 0, 2, 0);
    pull("k", 1, 2, 1);
    pull("i", 0, 0, 0);
    pull("i", 1, 2, 2);
    pull("l", 0, 0, 3);
    pull("l", 1, 0, 3);
    pull("o", 1, 1, 0);
    pull("o", 1, 2, 3);
    says(5, "e 1 if it is the first or the last of its kind, else 0");
    for (int t = 0; t < 6; t++) {
      pull("e", t / 3, t % 3, t % 3 == 1 ? 0 : 1);
    }
    fresh("1###");
    pull("e", 1, 0, 1);
    pull("l", 0, 0, 1);
    pull("l", 1, 0, 3);
    says(5, "s how many others of its kind are like it");
    pull("s", 0, 1, 2);
    pull("s", 1, 0, 0);
    fresh(FULL);
    pull("s", 0, 3, 5);
    pull("s", 1, 0, 3);
    pull("s", 1, 1, 1);
    says(5, "c how often it changes between OVER and UNDER along it");
    pull("c", 0, 0, 4);
    pull("c", 1, 0, 0);
    says(5, "n NIGHT by 7 (rest)");
    fresh("1#");
    for (int night = 0; night < 15; night++) {
      pull("n", 0, 0, night % 7);
      x.nights(1);
    }
    x.nights(60);
    pull("n", 0, 0, 75 % 7);
  }

  private static void cells() {
    says(6, "1 if the PICK is OVER, else 0");
    begin("3#.#.#.");
    for (int p = 0; p < 2; p++) {
      for (int e = 0; e < 3; e++) {
        due("cell(" + p + ", " + e + ")", x.cell(p, e), (p + e + 1) % 2);
      }
    }
    says(6, "NoSuchElementException: none such");
    int[][] none = {{2, 0}, {-1, 0}, {0, 3}, {0, -1}, {2, 3}, {LEAST, 0}, {0, LEAST}, {GREATEST, 0}, {0, GREATEST}, {1, 32},
      {0, 6}, {6, 0}};
    for (int[] at : none) {
      thrown("cell(" + at[0] + ", " + at[1] + ")", y -> y.cell(at[0], at[1]));
    }
    begin(FULL);
    due("cell(5, 5)", x.cell(5, 5), 1);
    thrown("cell(6, 5)", y -> y.cell(6, 5));
    thrown("cell(5, 6)", y -> y.cell(5, 6));
  }

  private static void threads() {
    begin("3#.#.#.");
    says(7, "what 0: its CELLS (bits)");
    long[][] due = {{5, 2, 0, 0}, {2, 2, 0, 0}, {2, 1, 1, 0}, {1, 1, 0, 0}, {2, 1, 1, 0}};
    for (int t = 0; t < 5; t++) {
      for (int what = 0; what < 4; what++) {
        int kind = t < 2 ? 0 : 1;
        due("thread " + t + ", " + what, x.thread(kind, t - 2 * kind, what), due[t][what]);
      }
    }
    says(7, "4: 100 and PULL");
    rule("999*k-99*(k=0)");
    due("the least", x.thread(0, 0, 4), 1);
    due("the most", x.thread(1, 0, 4), 199);
    says(7, "NoSuchElementException: none such");
    int[][] none = {{0, 2, 0}, {0, -1, 0}, {1, 3, 0}, {1, -1, 4}, {2, 0, 0}, {-1, 0, 0}, {LEAST, 0, 0}, {GREATEST, 0, 0},
      {0, GREATEST, 4}, {1, LEAST, 3}, {0, 6, 0}, {1, -6, 0}};
    for (int[] at : none) {
      thrown("thread(" + at[0] + ", " + at[1] + ", " + at[2] + ")", y -> y.thread(at[0], at[1], at[2]));
    }
    says(7, "NoSuchElementException: another what");
    for (int what : new int[] {5, -1, LEAST, GREATEST}) {
      thrown("thread(0, 0, " + what + ")", y -> y.thread(0, 0, what));
      thrown("thread(1, 2, " + what + ")", y -> y.thread(1, 2, what));
    }
    says(7, "1: how often it changes; 2: how many others of its kind are like it; 3: 1 if it is LOOSE");
    begin("6" + "#.#.#.".repeat(6));
    due("changes", x.thread(0, 5, 1), 5);
    due("likes", x.thread(0, 5, 2), 5);
    due("loose", x.thread(0, 5, 3), 0);
    due("changes", x.thread(1, 5, 1), 0);
    due("likes", x.thread(1, 5, 2), 2);
    due("cells", x.thread(1, 5, 0), 63);
    due("loose, over in all", x.thread(1, 5, 3), 1);
    due("cells", x.thread(1, 4, 0), 0);
    due("loose, over in none", x.thread(1, 4, 3), 1);
    thrown("thread(0, 6, 0)", y -> y.thread(0, 6, 0));
    thrown("thread(1, 6, 0)", y -> y.thread(1, 6, 0));
  }

  private static void sheets() {
    says(8, "n entries f, f + step, ..: those behind it have 0: the sum of all");
    begin("3.........");
    due("sheet(2, 0, 7, 7)", x.sheet(2, 0, 7, 7), 0);
    looks("3.........");
    due("sheet(2, 1, 7, 7)", x.sheet(2, 1, 7, 7), 7);
    looks("3###......");
    due("sheet(2, 3, 2, 1)", x.sheet(2, 3, 2, 1), 2 + 3 + 4);
    looks("3.#.##...#");
    due("sheet(2, 2, 1, 2)", x.sheet(2, 2, 1, 2), 1 + 3);
    looks("3#..##....");
    says(8, "n entries (6 at the most, more than there are PICKS, too)");
    due("sheet(0, 6, 1, 1)", x.sheet(0, 6, 1, 1), 1 + 2 + 3);
    looks("3#...#.##.");
    says(8, "of each the lowest bits, as many as there are ENDS");
    due("sheet(2, 3, 7, 1)", x.sheet(2, 3, 7, 1), 7 + 0 + 1);
    looks("3###...#..");
    due("sheet(2, 2, -1, -1)", x.sheet(2, 2, -1, -1), 7 + 6);
    looks("3###.##...");
    says(8, "bytes (kind 0), shorts (1), ints (2): of bytes, shorts the lowest bits, with their sign");
    for (int kind = 0; kind < 3; kind++) {
      due("sheet(" + kind + ", 3, 127, 1)", x.sheet(kind, 3, 127, 1), 7 + 0 + 1);
      due("sheet(" + kind + ", 3, 32767, 1)", x.sheet(kind, 3, 32767, 1), 7 + 0 + 1);
      due("sheet(" + kind + ", 3, MAX, 1)", x.sheet(kind, 3, GREATEST, 1), 7 + 0 + 1);
      due("sheet(" + kind + ", 3, MIN, -1)", x.sheet(kind, 3, LEAST, -1), 0 + 7 + 6);
      due("sheet(" + kind + ", 3, 1, MAX)", x.sheet(kind, 3, 1, GREATEST), 1 + 0 + 7);
      due("sheet(" + kind + ", 2, 260, 260)", x.sheet(kind, 2, 260, 260), 4 + 0);
    }
    begin("4........");
    due("more ends than picks", x.sheet(1, 2, 31, -5), 15 + 10);
    looks("4####.#.#");
    begin("1......");
    due("more picks than ends", x.sheet(0, 6, 2, 3), 0 + 1 + 0 + 1 + 0 + 1);
    looks("1.#.#.#");
    begin("6" + ".".repeat(36));
    due("all picks", x.sheet(1, 6, 63, -1), 63 + 62 + 61 + 60 + 59 + 58);
    due("all but the last", x.sheet(1, 5, 63, 0), 5 * 63);
    looks("6" + "#".repeat(30) + "......");
    fresh("1#");
    due("one of each", x.sheet(0, 6, 3, 0), 1);
    due("one of each", x.sheet(0, 6, 2, 1), 0);
    looks("1.");
  }

  private static void sheetRefused() {
    cloth = "3#.#.#.";
    says(8, "-2: n below 0 (of kinds 0 .. 2; nothing changes)");
    for (int kind = 0; kind < 3; kind++) {
      for (int n : new int[] {-1, -6, LEAST}) {
        refused("sheet(" + kind + ", " + n + ", 1, 1)", sheet(kind, n), -2);
      }
    }
    says(8, "NONE: another kind, n above 6 (these first)");
    for (int kind : new int[] {4, -1, LEAST, GREATEST}) {
      for (int n : new int[] {0, 6, 7, -1}) {
        refused("sheet(" + kind + ", " + n + ", 1, 1)", sheet(kind, n), -1);
      }
    }
    for (int kind = 0; kind < 4; kind++) {
      refused("sheet(" + kind + ", 7, 1, 1)", sheet(kind, 7), -1);
      refused("sheet(" + kind + ", MAX, 1, 1)", sheet(kind, GREATEST), -1);
    }
    says(8, "-3: missing (all 0)");
    for (int n : new int[] {0, 6, -1, LEAST}) {
      begin("3#.#.#.");
      due("sheet(3, " + n + ", 7, 7)", x.sheet(3, n, 7, 7), -3);
      looks("3......");
      row(1, 56);
      due("count(7)", x.count(7), 5);
      due("count(2)", x.count(2), 1);
    }
    says(8, "it is none of the calls that undo() undoes");
    due("count(5)", x.count(5), 4);
    due("undo()", x.undo(), 3);
    looks("3..#.#.");
  }

  private static Call sheet(int kind, int n) {
    return y -> y.sheet(kind, n, 1, 1);
  }

  // ---- nights, work: promises 9 to 15

  private static void nights() {
    says(9, "n NIGHTS (0 .. 60): how many THREADS there are then");
    fresh("3#.#.#.");
    due("nights(0)", x.nights(0), 5);
    row(0, 0);
    due("count(2)", x.count(2), 0);
    looks("3#.#.#.");
    due("nights(1)", x.nights(1), 4);
    row(1, 0);
    due("count(2)", x.count(2), 1);
    looks("3.#.");
    due("nights(60)", x.nights(60), 4);
    row(0, 0);
    due("count(2)", x.count(2), 61);
    says(9, "the ROW: PICKS, ENDS taken in these");
    fresh(FULL);
    rule("0-k");
    due("nights(5)", x.nights(5), 7);
    row(5, 0);
    fresh(FULL);
    rule("k");
    due("nights(60)", x.nights(60), 7);
    row(0, 5);
    fresh("6" + "##....".repeat(3) + "#.....".repeat(3));
    rule("(n=1)*k");
    due("nights(2)", x.nights(2), 10);
    row(1, 1);
    says(9, "Refused: another n");
    cloth = "3#.#.#.";
    for (int n : new int[] {-1, 61, LEAST, GREATEST}) {
      refused("nights(" + n + ")", y -> y.nights(n), -1);
    }
  }

  private static void nightsTaken() {
    says(9, "the THREAD with the most PULL is taken out");
    fresh("3#.#.#.");
    rule("5*k+i");
    due("nights(1)", x.nights(1), 4);
    looks("2#..#");
    rule("i-5*k");
    due("nights(1)", x.nights(1), 3);
    looks("2#.");
    says(9, "of like ones a PICK first");
    fresh("1#.");
    rule("i=0");
    due("nights(1)", x.nights(1), 2);
    looks("1.");
    fresh("2##");
    rule("i");
    due("an end has more", x.nights(1), 2);
    looks("1#");
    says(9, "then the least number");
    fresh("2#..###");
    rule("0-k");
    x.nights(1);
    looks("2.###");
    fresh("2#..###");
    rule("i>0");
    x.nights(1);
    looks("2#.##");
    fresh("3.##");
    rule("k");
    x.nights(1);
    looks("2##");
    says(9, "the last one of its kind is none of the other kind");
    fresh("1#.#");
    rule("i");
    x.nights(1);
    looks("1#.");
    fresh("3#.#");
    rule("i");
    x.nights(1);
    looks("2#.");
    says(9, "of less than 0 the most");
    fresh("2#..#");
    rule("0-99+k*i");
    x.nights(1);
    looks("1#.");
    rule("0-99");
    x.nights(1);
    looks("1.");
    says(9, "but nothing, if it is the last one of its kind; NIGHT is 1 more");
    fresh("3#.#");
    rule("0-k");
    due("the last pick", x.nights(1), 4);
    looks("3#.#");
    row(0, 0);
    due("count(2)", x.count(2), 1);
    fresh("1#.#");
    rule("k");
    due("the last end", x.nights(3), 4);
    looks("1#.#");
    due("count(2)", x.count(2), 3);
    fresh("1#");
    due("one of each", x.nights(60), 2);
    row(0, 0);
    due("count(2)", x.count(2), 60);
  }

  private static void weaves() {
    says(10, "as number i of its kind (0 .. as many as there are; those from i on are one further)");
    String[] picks = {"3##.#.#.#.", "3#.###..#.", "3#.#.#.##."};
    for (int i = 0; i < 3; i++) {
      begin("3#.#.#.");
      due("weaves(0, " + i + ", 3)", x.weaves(0, i, 3), 3);
      looks(picks[i]);
    }
    String[] ends = {"4##.#..#.", "4##.#..#.", "4#.##.#..", "4#.##.#.."};
    for (int i = 0; i < 4; i++) {
      begin("3#.#.#.");
      due("weaves(1, " + i + ", 2)", x.weaves(1, i, 2), 4);
      looks(ends[i]);
    }
    says(10, "with CELLS v (bits; v 0 .. all bits)");
    begin("3#.#.#.");
    due("weaves(0, 0, 0)", x.weaves(0, 0, 0), 3);
    looks("3...#.#.#.");
    due("weaves(0, 0, 7)", x.weaves(0, 0, 7), 4);
    looks("3###...#.#.#.");
    due("weaves(1, 3, 15)", x.weaves(1, 3, 15), 4);
    looks("4###.....#.#..#..");
    due("weaves(1, 4, 0)", x.weaves(1, 4, 0), 5);
    looks("5###.#....##.#.#.#..#");
    says(10, "how many of its kind there are (till there are 6)");
    begin("1#");
    for (int n = 2; n <= 6; n++) {
      due("weaves(0, 0, 1)", x.weaves(0, 0, 1), n);
    }
    for (int n = 2; n <= 6; n++) {
      due("weaves(1, " + (n - 1) + ", 63)", x.weaves(1, n - 1, 63), n);
    }
    looks("6" + "#.....".repeat(6));
    due("count(2)", x.count(2), 1);
  }

  private static void weavesRefused() {
    cloth = "3#.#.#.";
    says(10, "NONE: others");
    int[][] others = {{2, 0, 0}, {-1, 0, 0}, {LEAST, 0, 0}, {GREATEST, 0, 0}, {0, -1, 0}, {0, 3, 0}, {0, LEAST, 0},
      {0, GREATEST, 0}, {1, -1, 0}, {1, 4, 0}};
    for (int[] one : others) {
      refused("weaves(" + one[0] + ", " + one[1] + ", 0)", weaves(one[0], one[1], 0), -1);
    }
    says(10, "NONE: others (v 0 .. all bits)");
    for (int v : new int[] {-1, 8, LEAST, GREATEST}) {
      refused("weaves(0, 2, " + v + ")", weaves(0, 2, v), -1);
    }
    for (int v : new int[] {-1, 4, LEAST, GREATEST}) {
      refused("weaves(1, 3, " + v + ")", weaves(1, 3, v), -1);
    }
    says(10, "-2: there are 6 already");
    cloth = FULL;
    for (int kind = 0; kind < 2; kind++) {
      for (int i : new int[] {0, 5, 6}) {
        refused("weaves(" + kind + ", " + i + ", 63)", weaves(kind, i, 63), -2);
        refused("weaves(" + kind + ", " + i + ", 0)", weaves(kind, i, 0), -2);
      }
      says(10, "NONE first");
      refused("weaves(" + kind + ", 7, 0)", weaves(kind, 7, 0), -1);
      refused("weaves(" + kind + ", -1, 0)", weaves(kind, -1, 0), -1);
      refused("weaves(" + kind + ", 0, 64)", weaves(kind, 0, 64), -1);
      refused("weaves(" + kind + ", 0, -1)", weaves(kind, 0, -1), -1);
    }
    says(10, "-2: there are 6 already (of its kind)");
    begin("1######");
    refused("weaves(0, 0, 1)", weaves(0, 0, 1), -2);
    refused("weaves(0, 0, 2)", weaves(0, 0, 2), -1);
    due("weaves(1, 1, 63)", x.weaves(1, 1, 63), 2);
    begin("6######");
    refused("weaves(1, 0, 1)", weaves(1, 0, 1), -2);
    refused("weaves(1, 0, 2)", weaves(1, 0, 2), -1);
    due("weaves(0, 1, 63)", x.weaves(0, 1, 63), 2);
  }

  private static Call weaves(int kind, int i, int v) {
    return y -> y.weaves(kind, i, v);
  }

  private static void draws() {
    says(11, "A THREAD is drawn out: CELLS that it had");
    begin("3#.####...");
    due("draws(0, 1)", x.draws(0, 1), 7);
    looks("3#.#...");
    due("draws(1, 2)", x.draws(1, 2), 2);
    looks("2#...");
    due("draws(1, 0)", x.draws(1, 0), 2);
    looks("1..");
    due("draws(0, 0)", x.draws(0, 0), 0);
    looks("1.");
    due("count(2)", x.count(2), 1);
    for (int i = 0; i < 6; i++) {
      begin(FULL);
      due("draws(0, " + i + ")", x.draws(0, i), 0b101101);
      due("count(0)", x.count(0), 5);
      begin(FULL);
      due("draws(1, " + i + ")", x.draws(1, i), i == 1 || i == 4 ? 63 : 0);
      due("count(1)", x.count(1), 5);
      same("cells", clothOf(x).substring(1, 6), "#.##.#".substring(0, i) + "#.##.#".substring(i + 1));
    }
    says(11, "-2: it is the last one of its kind");
    cloth = "3#.#";
    refused("draws(0, 0)", y -> y.draws(0, 0), -2);
    cloth = "1#.#";
    refused("draws(1, 0)", y -> y.draws(1, 0), -2);
    says(11, "NONE: none such");
    refused("draws(1, 1)", y -> y.draws(1, 1), -1);
    refused("draws(1, -1)", y -> y.draws(1, -1), -1);
    cloth = "3#.#.#.";
    int[][] none = {{0, 2}, {0, -1}, {1, 3}, {1, -1}, {2, 0}, {-1, 0}, {LEAST, 0}, {GREATEST, 0}, {0, LEAST}, {1, GREATEST}};
    for (int[] one : none) {
      refused("draws(" + one[0] + ", " + one[1] + ")", y -> y.draws(one[0], one[1]), -1);
    }
  }

  private static void flips() {
    says(12, "the other one is OVER then: in how many CELLS of all PICKS are OVER");
    String[] behind = {"3..#.#.", "3###.#.", "3#...#.", "3#.###.", "3#.#...", "3#.#.##"};
    for (int c = 0; c < 6; c++) {
      begin("3#.#.#.");
      due("flips(" + c / 3 + ", " + c % 3 + ")", x.flips(c / 3, c % 3), c % 2 == 0 ? 2 : 4);
      looks(behind[c]);
      due("cells of the end", x.thread(1, c % 3, 0) >>> c / 3 & 1, behind[c].charAt(1 + c) == '#' ? 0 : 1);
    }
    begin("6" + "#".repeat(36));
    due("flips(5, 5)", x.flips(5, 5), 35);
    due("flips(5, 5)", x.flips(5, 5), 36);
    fresh("1#");
    due("flips(0, 0)", x.flips(0, 0), 0);
    says(12, "NONE: none such");
    cloth = "3#.#.#.";
    int[][] none = {{2, 0}, {-1, 0}, {0, 3}, {0, -1}, {2, 3}, {LEAST, 0}, {0, LEAST}, {GREATEST, 0}, {0, GREATEST}, {0, 32}};
    for (int[] one : none) {
      refused("flips(" + one[0] + ", " + one[1] + ")", y -> y.flips(one[0], one[1]), -1);
    }
    cloth = FULL;
    refused("flips(6, 5)", y -> y.flips(6, 5), -1);
    refused("flips(5, 6)", y -> y.flips(5, 6), -1);
  }

  private static void mirrors() {
    says(13, "its PICKS (kind 0) or ENDS (1) are in the other order: how many of these stand elsewhere, as they look");
    begin("3##..#.###");
    due("mirrors(0)", x.mirrors(0), 2);
    looks("3###.#.##.");
    due("mirrors(1)", x.mirrors(1), 2);
    looks("3###.#..##");
    begin("3#.####...");
    due("mirrors(0): like ones stand elsewhere", x.mirrors(0), 2);
    due("mirrors(1)", x.mirrors(1), 0);
    begin("1#..#");
    due("none", x.mirrors(0), 0);
    looks("1#..#");
    due("one alone", x.mirrors(1), 0);
    begin("2#.#.");
    due("all are like", x.mirrors(0), 0);
    due("all", x.mirrors(1), 2);
    looks("2.#.#");
    begin("3....#..#.##...####");
    due("six picks that differ", x.mirrors(0), 6);
    looks("3###..###..#..#....");
    begin("6##.#..");
    due("six ends", x.mirrors(1), 6);
    looks("6..#.##");
    begin("1###...");
    due("all six", x.mirrors(0), 6);
    looks("1...###");
    due("count(2)", x.count(2), 1);
    says(13, "NONE: another kind");
    cloth = "3##..#.###";
    for (int kind : new int[] {-1, 2, LEAST, GREATEST}) {
      refused("mirrors(" + kind + ")", y -> y.mirrors(kind), -1);
    }
  }

  private static void workTaken() {
    says(14, "an empty one: nothing");
    begin("3#.#.#.");
    due("work() of none", work(""), 0);
    row(0, 5);
    due("count(5)", x.count(5), 4);
    says(14, "n and a digit (nights())");
    due("work()", work("n0n9"), 2);
    row(0, 4);
    due("count(2)", x.count(2), 10);
    says(14, "w, a digit 0 or 1, a digit and two digits (weaves(): kind, number, CELLS)");
    begin("6......");
    due("work()", work("w0063w0109"), 2);
    row(0, 9);
    looks("6#######..#........");
    due("work()", work("w1000"), 0);
    row(1, 9);
    begin("1#");
    due("work()", work("w1100w1001w1201"), 3);
    looks("4.#.#");
    says(14, "d, a digit 0 or 1 and a digit (draws())");
    due("work()", work("d13d10"), 2);
    looks("2#.");
    says(14, "t and two digits (flips())");
    due("work()", work("t01t00"), 2);
    looks("2.#");
    says(14, "m and a digit 0 or 1 (mirrors())");
    due("work()", work("m1m0"), 2);
    row(0, 3);
    looks("2#.");
    due("count(7)", x.count(7), 0);
    says(14, "60 signs are not more than 60");
    due("work() of 60", work("m1".repeat(30)), 30);
    row(0, 3);
    due("work() of 60", work("m1".repeat(26) + "w0000t00"), 28);
    row(0, 4);
  }

  private static void workRefused() {
    cloth = "3#.#.#.";
    Call call = y -> y.work();
    says(14, "-1 - p: the sign at p can't stand there; nothing is done then");
    String[] texts = {"x", "N1", "0", "nn", "nx", "n/", "n:", "n11", "w2000", "w/000", "wx", "w0x00", "w0/00", "w0:00",
      "w00x0", "w000x", "w00/0", "w00:0", "w000/", "w000:", "w00001", "d20", "d/0", "d0x", "d0/", "d0:", "d000", "tx0", "t0x",
      "t/0", "t:0", "t0/", "t0:", "t000", "m2", "m/", "m00", "t00m0x", "t00\u00ee1"};
    int[] faults = {0, 0, 0, 1, 1, 1, 1, 2, 1, 1, 1, 2, 2, 2, 3, 4, 3, 3, 4, 4, 5, 1, 1, 2, 2, 2, 3, 1, 2, 1, 1, 2, 2, 3, 1, 1,
      2, 5, 3};
    for (int n = 0; n < texts.length; n++) {
      refused("work()", texts[n], call, -1 - faults[n]);
      refused("work()", "t00m1" + texts[n], call, -6 - faults[n]);
    }
    says(14, "its end, if it ends too early; nothing is done then");
    for (String text : new String[] {"n", "w", "w0", "w00", "w000", "d", "d1", "t", "t0", "m", "t00m"}) {
      refused("work()", text, call, -1 - text.length());
      refused("work()", "t00n1" + text, call, -6 - text.length());
    }
    refused("work()", "n1".repeat(29) + "t0", call, -61);
    says(14, "60, if it has more and the first 60 could go on or end; nothing is done then");
    refused("work()", "t00m0" + "t00".repeat(18) + "n", call, -61);
    refused("work()", "n1".repeat(30) + "n", call, -61);
    refused("work()", "n1".repeat(30) + "x", call, -61);
    refused("work()", "n1".repeat(30) + "n1", call, -61);
    refused("work()", "n1".repeat(29) + "t00", call, -61);
    refused("work()", "n1".repeat(40), call, -61);
    says(14, "-1 - p: the sign at p can't stand there (the 60th)");
    refused("work()", "n1".repeat(29) + "nx" + "n1", call, -60);
    refused("work()", "n1".repeat(29) + "nx", call, -60);
    refused("work()", "x1".repeat(40), call, -1);
  }

  private static void workDone() {
    says(14, "they are done one by one, till one is refused (it answers below 0): how many were done");
    begin("3#.#.#.");
    due("work()", work("t00t02t20t11"), 2);
    row(1, 5);
    looks("3....#.");
    due("work()", work("d00d00m1n1"), 1);
    row(1, 4);
    looks("3.#.");
    due("count(2)", x.count(2), 1);
    due("work()", work("w0008"), 0);
    row(1, 4);
    due("work()", work("w0007w0299w0000"), 1);
    row(1, 5);
    due("work()", work("d09"), 0);
    due("work()", work("w0900"), 0);
    due("work()", work("t90"), 0);
    row(1, 5);
    says(14, "it answers 0, and is done");
    begin("1..");
    due("work()", work("m0d00t00t00"), 4);
    row(0, 2);
    says(15, "work() of which one act was done, as one");
    begin("3#.#.#.");
    due("work()", work("t00t02n1t99"), 3);
    due("count(5)", x.count(5), 5);
    due("undo()", x.undo(), 4);
    looks("3#.#.#.");
    due("count(2)", x.count(2), 1);
    due("work()", work("m1t99"), 1);
    due("count(5)", x.count(5), 5);
    due("undo()", x.undo(), 4);
    says(15, "such as were done; work() of none is not");
    due("work()", work("t99t00"), 0);
    due("count(5)", x.count(5), 4);
    due("work()", work(""), 0);
    due("count(5)", x.count(5), 4);
    due("work()", work("n"), -2);
    due("count(5)", x.count(5), 4);
  }

  private static void undos() {
    says(15, "Refused: none");
    fresh("3#.#.#.");
    due("undo()", x.undo(), -1);
    looks("3#.#.#.");
    row();
    x.nights(0);
    due("undo()", x.undo(), 0);
    due("undo()", x.undo(), -1);
    cloth = "3#.#.#.";
    refused("undo() of none left", y -> {
      long answer = 0;
      for (int n = 0; n < 5; n++) {
        answer = y.undo();
      }
      y.nights(1);
      y.weaves(0, 0, 5);
      y.flips(0, 0);
      y.flips(0, 0);
      y.words(6, 1);
      return y.count(5) == 4 ? answer : 0;
    }, -1);
    says(15, "The latest nights(), weaves(), draws(), flips(), mirrors() or work() is undone: how many are left");
    fresh("3#.#.#.");
    String[] told = new String[6];
    Call[] acts = {y -> y.nights(2), y -> y.weaves(1, 1, 1), y -> y.draws(1, 0), y -> y.flips(0, 1), y -> y.mirrors(1)};
    for (int n = 0; n < 5; n++) {
      told[n] = told(x);
      due("act " + n + " is done", acts[n].of(x) >= 0, true);
      due("count(5)", x.count(5), n + 1);
    }
    told[5] = told(x);
    due("work()", work("n1t00"), 2);
    for (int n = 5; n >= 0; n--) {
      due("undo()", x.undo(), n);
      same("it is as ahead of act " + n, told(x), told[n]);
    }
    says(15, "of 15 that are kept, the latest ones");
    fresh("6" + ".".repeat(36));
    for (int n = 1; n <= 17; n++) {
      x.flips((n - 1) / 6, (n - 1) % 6);
      due("count(5)", x.count(5), Math.min(n, 15));
    }
    for (int left = 14; left >= 0; left--) {
      due("undo()", x.undo(), left);
      due("cells", x.count(3), left + 2);
    }
    due("undo()", x.undo(), -1);
    due("cells", x.count(3), 2);
    says(15, "THE CLOTH is as ahead of it (the largest one)");
    String largest = "6#.#.#..##..##...#.#..##.###...#.##.#";
    fresh(largest);
    x.keep(0);
    x.mirrors(0);
    x.mirrors(1);
    x.draws(0, 5);
    x.draws(1, 5);
    for (int left = 3; left >= 0; left--) {
      due("undo()", x.undo(), left);
    }
    looks(largest);
    x.draws(0, 0);
    due("again(0)", x.again(0), true);
    looks(largest);
    fresh("6" + ".".repeat(36));
    says(15, "NIGHT is as ahead of it");
    for (int n = 0; n < 16; n++) {
      x.nights(3);
    }
    for (int left = 14; left >= 0; left--) {
      x.undo();
      due("count(2)", x.count(2), 3 * left + 3);
    }
  }

  private static void undoForgets() {
    says(15, "such as were done: not those that were refused");
    begin("3#.#.#.");
    x.nights(61);
    x.weaves(0, 9, 0);
    x.draws(0, 9);
    x.flips(9, 9);
    x.mirrors(2);
    due("count(5)", x.count(5), 4);
    says(15, "no other call can be undone");
    x.sheet(3, 0, 0, 0);
    rule("7");
    x.told(0, 0);
    x.keep(2);
    x.years(3, 9);
    due("count(5)", x.count(5), 4);
    says(15, "cloth() and again() forget them");
    begin("3#.#.#.");
    due("again(0)", x.again(0), true);
    due("undo()", x.undo(), -1);
    begin("3#.#.#.");
    due("cloth()", cloth("1#"), 1);
    due("undo()", x.undo(), -1);
    says(15, "if they are not refused");
    begin("3#.#.#.");
    due("again(2)", x.again(2), false);
    due("again(3)", x.again(3), false);
    due("cloth()", cloth("1"), -2);
    due("undo()", x.undo(), 3);
    says(15, "undo() leaves the rule, what was told, the ROW, THE TEXT, what is kept");
    begin("3#.#.#.");
    due("undo()", x.undo(), 3);
    due("pull", x.thread(1, 1, 4), 100 + 2 - 1 + 1);
    due("count(4)", x.count(4), 2);
    row(1, 56);
    due("count(7)", x.count(7), 5);
    due("again(1)", x.again(1), true);
  }

  // ---- what goes, what is left: promises 16 to 20

  private static void next() {
    says(16, "6 times its kind and its number; the ROW: 100 and its PULL");
    fresh(FULL);
    rule("k*i*20");
    due("the last end", x.next(), 11);
    row(199);
    rule("0-999+k*i");
    due("the first pick", x.next(), 0);
    row(1);
    rule("i-9*k");
    due("the last pick", x.next(), 5);
    row(105);
    rule("k");
    due("the first end", x.next(), 6);
    row(101);
    says(16, "in this NIGHT");
    rule("(n=1)*k");
    due("now", x.next(), 0);
    x.nights(1);
    due("then", x.next(), 6);
    says(16, "-2: nothing goes");
    cloth = "1#";
    refused("next()", y -> y.next(), -2);
    cloth = "3#.#";
    refused("next()", y -> y.next(), -2);
    cloth = "1##";
    x = used();
    rule("k");
    due("the last end", x.next(), -2);
    row(1, 56);
    rule("0");
    due("the first pick", x.next(), 0);
    row(100);
  }

  private static void later() {
    says(17, "How many THREADS are left in n NIGHTS (0 .. 60)");
    begin("3#.#.#.");
    due("later(0)", x.later(0), 5);
    row(2, 3, 5, 2);
    due("later(1)", x.later(1), 4);
    row(1, 3, 2);
    due("later(60)", x.later(60), 4);
    row(1, 3, 2);
    looks("3#.#.#.");
    due("count(2)", x.count(2), 1);
    says(17, "the ROW: PICKS, ENDS, then CELLS of PICKS then, in turn (6 at the most)");
    begin(FULL);
    due("later(0)", x.later(0), 12);
    row(6, 6, 45, 45, 45, 45, 45, 45);
    rule("(n=6)*i");
    due("NIGHT goes on from now", x.later(5), 7);
    row(1, 6, 45);
    due("till an end goes in NIGHT 6", x.later(6), 6);
    row(1, 5, 13);
    says(17, "in the 60th NIGHT, not later");
    fresh("1##");
    rule("k+(n=3)*2-(n=3)*3*k");
    due("not till the fourth", x.later(3), 3);
    due("in the fourth", x.later(4), 2);
    fresh("1##");
    x.nights(4);
    due("count(0)", x.count(0), 1);
    cloth("1##");
    rule("k");
    x.nights(5);
    rule("k+(n=1)*2-(n=1)*3*k");
    due("NIGHT 5 and 3 more", x.later(3), 3);
    due("NIGHT 5 and 4 more", x.later(4), 2);
    says(17, "NONE: another n");
    cloth = "3#.#.#.";
    for (int n : new int[] {-1, 61, LEAST, GREATEST}) {
      refused("later(" + n + ")", y -> y.later(n), -1);
    }
  }

  private static void falls() {
    says(18, "In how many NIGHTS (0 .. 60) THE CLOTH first does not HANG TOGETHER (0: now)");
    begin("2#.##");
    due("falls()", x.falls(), 0);
    row(4);
    begin("1#");
    due("falls()", x.falls(), 0);
    row(2);
    begin(FULL);
    due("falls()", x.falls(), 0);
    row(12);
    says(18, "how many; the ROW: THREADS then");
    begin("2#..##..#");
    rule("0");
    due("falls()", x.falls(), 3);
    row(3);
    rule("k");
    due("falls()", x.falls(), 1);
    row(5);
    looks("2#..##..#");
    due("count(2)", x.count(2), 1);
    says(18, "each NIGHT takes one by its own PULL");
    fresh("2#..##..#");
    rule("k*(n=2)");
    due("falls()", x.falls(), 3);
    row(3);
    rule("k*(n=1)");
    due("falls()", x.falls(), 2);
    row(4);
    says(18, "the most NIGHTS in which it does: two of each kind are left ahead of the last");
    begin("6" + "#.#.#..#.#.#".repeat(3));
    rule("k*(l<3)");
    due("falls()", x.falls(), 9);
    row(3);
  }

  private static void rags() {
    says(19, "by how many sets of THREADS that are taken out of THE CLOTH it is left; the ROW: the least such set");
    begin("3#.#.#.");
    due("itself, by none", rags("3#.#.#."), 1);
    row(0);
    due("one of each", rags("1#"), 3);
    row(2 | 0b011 << 6);
    due("one of each", rags("1."), 3);
    row(1 | 0b011 << 6);
    due("count(7)", x.count(7), 0);
    begin("2#.");
    due("without the last end", rags("1#"), 1);
    row(128);
    due("without the first end", rags("1."), 1);
    row(64);
    begin("1#.");
    due("without the last pick", rags("1#"), 1);
    row(2);
    due("without the first pick", rags("1."), 1);
    row(1);
    begin(FULL);
    due("each of 6 by each of 4", rags("1#"), 24);
    row(31 | 31 << 6);
    due("one pick", rags("6#.##.#"), 6);
    row(31);
    says(19, "how many (0; nothing without)");
    begin("3#.#.#.");
    x.hangs();
    due("none", rags("2...."), 0);
    row();
    x.hangs();
    due("more picks", rags("3#.#.#.#.#"), 0);
    row();
    x.hangs();
    due("more ends", rags("4#.#..#.#"), 0);
    row();
    looks("3#.#.#.");
    says(19, "-1 - p: as cloth()");
    Call call = y -> y.rags();
    String[] texts = {"", "0", "7", "#", "2", "2#", "2##.", "2#x", "1#######", "6" + "#".repeat(37), "2##0#"};
    int[] faults = {0, 0, 0, 0, 1, 2, 4, 2, 7, 37, 3};
    for (int n = 0; n < texts.length; n++) {
      refused("rags()", texts[n], call, -1 - faults[n]);
    }
  }

  private static void lefts() {
    says(20, "if just n THREADS (0 .. 4) are taken out: how many; the ROW: by how many sets");
    begin("2#..#");
    int[] cloths = {1, 4, 2, 0, 0};
    int[] sets = {1, 4, 4, 0, 0};
    for (int n = 0; n <= 4; n++) {
      due("lefts(" + n + ")", x.lefts(n), cloths[n]);
      row(sets[n]);
    }
    looks("2#..#");
    says(20, "one of each kind is left at least");
    begin("1#");
    due("lefts(0)", x.lefts(0), 1);
    row(1);
    for (int n = 1; n <= 4; n++) {
      due("lefts(" + n + ")", x.lefts(n), 0);
      row(0);
    }
    begin("5#....");
    due("lefts(4)", x.lefts(4), 2);
    row(5);
    begin("1#....");
    due("lefts(4)", x.lefts(4), 2);
    row(5);
    begin("4####");
    due("lefts(3)", x.lefts(3), 1);
    row(4);
    due("lefts(4)", x.lefts(4), 0);
    row(0);
    says(20, "different CLOTHS (of the largest one)");
    begin("6" + "#".repeat(36));
    due("lefts(4)", x.lefts(4), 5);
    row(495);
    begin("6#......#......#......#......#......#");
    due("lefts(1)", x.lefts(1), 12);
    row(12);
    for (String one : new String[] {cloth, FULL, "6" + "#.#.#..##..##...#.#..##.###...#.###..".substring(0, 36)}) {
      begin(one);
      for (int n = 0; n <= 4; n++) {
        int[] due = left(one, n);
        due("lefts(" + n + ")", x.lefts(n), due[0]);
        row(due[1]);
      }
    }
    says(20, "NONE: another n");
    cloth = "3#.#.#.";
    for (int n : new int[] {-1, 5, LEAST, GREATEST}) {
      refused("lefts(" + n + ")", y -> y.lefts(n), -1);
    }
  }

  /** How many texts of cloths are left, and by how many sets. */
  private static int[] left(String text, int n) {
    int ends = text.charAt(0) - '0';
    int picks = (text.length() - 1) / ends;
    Set<String> texts = new HashSet<>();
    int sets = 0;
    for (int taken = 0; taken < 1 << picks + ends; taken++) {
      if (Integer.bitCount(taken) == n) {
        StringBuilder s = new StringBuilder().append(ends - Integer.bitCount(taken >>> picks));
        for (int c = 0; c < picks * ends; c++) {
          boolean stays = ((taken >>> c / ends | taken >>> picks + c % ends) & 1) == 0;
          s.append(stays ? text.substring(1 + c, 2 + c) : "");
        }
        if (s.length() > 1) {
          texts.add(s.toString());
          sets++;
        }
      }
    }
    return new int[] {texts.size(), sets};
  }

  // ---- words: promises 21 and 22

  private static void outlasts() {
    says(21, "The most PICKS of which no two can be alike, if of each one of its CELLS is lost (one alone)");
    begin("1#");
    due("one of each", x.outlasts(), 1);
    row(1);
    begin("1#.");
    due("of one cell none is left", x.outlasts(), 1);
    row(1);
    begin("2#.#.");
    due("like ones", x.outlasts(), 1);
    row(1);
    begin("3#...#.");
    due("alike without the first, the second", x.outlasts(), 1);
    row(1);
    says(21, "any, each another one");
    begin("4#..#..##");
    due("alike without the first of one, the third of the other", x.outlasts(), 1);
    row(1);
    begin("4##..#.#.");
    due("alike without the second of one, the third of the other", x.outlasts(), 1);
    row(1);
    says(21, "how many; the ROW: they (all)");
    begin("6......#....#.#..#...##..##.#..######");
    due("words of a check", x.outlasts(), 6);
    row(63);
    begin("2..##");
    due("far ones", x.outlasts(), 2);
    row(3);
    says(21, "bits: of as many the least");
    begin("3......###");
    due("like ones", x.outlasts(), 2);
    row(5);
    begin("3...###...###");
    due("like ones", x.outlasts(), 2);
    row(3);
    looks("3...###...###");
  }

  private static void words() {
    says(22, "Words of n CELLS (1 .. 6) .. is a (0 .. n): how many; the ROW: the least, the greatest one");
    fresh("1#");
    int[][] due = {{1, 0, 1, 0, 0}, {1, 1, 1, 1, 1}, {2, 0, 2, 0, 3}, {2, 1, 1, 1, 1}, {2, 2, 1, 2, 2}, {3, 0, 2, 0, 5},
      {3, 1, 2, 1, 6}, {3, 2, 2, 2, 7}, {3, 3, 2, 3, 4}, {6, 0, 10, 0, 63}, {6, 6, 9, 7, 62}};
    for (int[] one : due) {
      due("words(" + one[0] + ", " + one[1] + ")", x.words(one[0], one[1]), one[2]);
      row(one[3], one[4]);
    }
    int sum = 0;
    for (int a = 0; a <= 6; a++) {
      sum += x.words(6, a);
    }
    due("all words of 6 cells", sum, 64);
    says(22, "NONE: others");
    int[][] others = {{0, 0}, {-1, 0}, {7, 0}, {7, 7}, {LEAST, 0}, {GREATEST, 0}, {1, 2}, {1, -1}, {6, 7}, {6, -1},
      {3, LEAST}, {3, GREATEST}, {0, -1}, {31, 0}, {32, 0}};
    for (int[] one : others) {
      refused("words(" + one[0] + ", " + one[1] + ")", y -> y.words(one[0], one[1]), -1);
    }
  }

  // ---- what holds: promises 23 to 28

  private static void loose() {
    says(23, "A THREAD is LOOSE, if it is OVER in all CELLS, or in none (of one of each both are)");
    begin("1#");
    due("loose()", x.loose(), 1 | 64);
    row(1, 1);
    says(23, "THREADS (bits) that are LOOSE: none");
    begin("2#..#");
    due("loose()", x.loose(), 0);
    row(0, 0);
    says(23, "the ROW: how many PICKS, ENDS of these (all)");
    begin("6" + "#".repeat(36));
    due("loose()", x.loose(), 4095);
    row(6, 6);
    begin("6" + ".".repeat(36));
    due("loose()", x.loose(), 4095);
    row(6, 6);
    says(23, "in all but one is not in all");
    begin("6." + "#".repeat(35));
    due("loose()", x.loose(), 0b111110111110);
    row(5, 5);
    begin("3#.##.#");
    due("ends alone", x.loose(), 0b111000000);
    row(0, 3);
  }

  private static void sheds() {
    says(24, "till none is (LOOSE: none falls)");
    begin("2#..#");
    due("sheds()", x.sheds(), 4);
    row(195, 0);
    says(24, "All THREADS that are LOOSE fall out at once (all)");
    begin("2####");
    due("sheds()", x.sheds(), 0);
    row(0, 1);
    says(24, "or none of a kind is left (then those of the other kind stay)");
    begin("2#.");
    due("the ends are gone", x.sheds(), 1);
    row(1, 1);
    begin("1#.");
    due("the picks are gone", x.sheds(), 1);
    row(64, 1);
    begin("3#.##.#");
    due("the ends are gone", x.sheds(), 2);
    row(3, 1);
    says(24, "then those that are then, and so on: how many are left; the ROW: which (bits), in how many times");
    begin("3#.#.##...");
    due("two times", x.sheds(), 4);
    row(195, 2);
    begin("2##.#");
    due("two times, then none is left", x.sheds(), 0);
    row(0, 2);
    begin("3####.##..");
    due("three times", x.sheds(), 0);
    row(0, 3);
    looks("3####.##..");
  }

  private static void hangs() {
    says(25, "THE CLOTH HANGS TOGETHER: 1, else 0; the ROW: how many LAYERS (1), the uppermost one");
    begin("2#..#");
    due("hangs()", x.hangs(), 1);
    row(1, 195);
    begin("6" + "#.#.#..#.#.#".repeat(3));
    due("hangs()", x.hangs(), 1);
    row(1, 4095);
    says(25, "one of each kind alone does not");
    begin("1#");
    due("hangs()", x.hangs(), 0);
    row(2, 1);
    begin("1.");
    due("hangs()", x.hangs(), 0);
    row(2, 64);
    says(25, "0: there is none such");
    begin("1##");
    due("hangs()", x.hangs(), 0);
    row(3, 0);
    begin("2..");
    due("hangs()", x.hangs(), 0);
    row(3, 0);
    begin("6" + "#".repeat(36));
    due("all layers there can be", x.hangs(), 0);
    row(12, 0);
    says(25, "the uppermost one, from which one comes to all others (bits)");
    begin("1.#");
    due("hangs()", x.hangs(), 0);
    row(3, 2);
    begin("3#.#.#.###");
    due("hangs()", x.hangs(), 0);
    row(2, 4);
    begin("3#.#.#....");
    due("hangs()", x.hangs(), 0);
    row(2, 451);
    begin("3#...#....");
    due("the last end above all", x.hangs(), 0);
    row(3, 256);
    looks("3#...#....");
  }

  private static void spares() {
    says(26, "each of which can be taken out, and THE CLOTH then HANGS TOGETHER (one THREAD alone does)");
    begin("1#");
    due("spares()", x.spares(), 65);
    row(2);
    says(26, "one kind alone does not HANG TOGETHER");
    begin("1##");
    due("spares()", x.spares(), 0);
    row(0);
    begin("2##");
    due("spares()", x.spares(), 0);
    row(0);
    says(26, "THREADS (bits); the ROW: how many (none)");
    begin("2#..#");
    due("spares()", x.spares(), 0);
    row(0);
    says(26, "THREADS (bits); the ROW: how many");
    begin("3#.#.#.");
    due("spares()", x.spares(), 64 | 256);
    row(2);
    begin("2#..###");
    due("it does not now", x.spares(), 4);
    row(1);
    begin("6" + "#.#.#..#.#.#".repeat(3));
    due("all", x.spares(), 4095);
    row(12);
  }

  private static void mends() {
    says(27, "The fewest CELLS (0 .. 2) to be turned: 0");
    begin("2#..#");
    due("mends()", x.mends(), 0);
    row();
    says(27, "1; the ROW: they, by 6 times PICK and END (of as few the least row)");
    begin("2#.##");
    due("mends()", x.mends(), 1);
    row(6);
    begin("2.#..");
    due("mends()", x.mends(), 1);
    row(6);
    begin("2##.#");
    due("mends()", x.mends(), 1);
    row(1);
    begin("2..#.");
    due("mends()", x.mends(), 1);
    row(1);
    begin("2###.");
    due("mends()", x.mends(), 1);
    row(0);
    begin("2#.#.");
    due("either of two, the least", x.mends(), 2);
    row(0, 1);
    says(27, "2; the ROW: they, rising (of as few the least row)");
    begin("2####");
    due("mends()", x.mends(), 2);
    row(0, 7);
    looks("2####");
    begin("2....");
    due("mends()", x.mends(), 2);
    row(0, 7);
    begin("2#.....");
    due("mends()", x.mends(), 2);
    row(6, 13);
    begin("2#..#####");
    due("the last two picks lie above all", x.mends(), 2);
    row(12, 18);
    begin("4#.##.###");
    due("the last two ends lie below all", x.mends(), 2);
    row(2, 3);
    begin("6" + "#.#.#..#.#.#".repeat(2) + "############");
    due("the last two picks lie above all", x.mends(), 2);
    row(24, 30);
    says(27, "0 .. 2: the last cell of all");
    begin("6" + ".#####".repeat(5) + "######");
    due("mends()", x.mends(), -2);
    says(27, "-2: by no two");
    for (String none : new String[] {"1#", "1######", "6......", "3#########", "2......", "2####..", "6" + "#.#.#.".repeat(5) + "......"}) {
      cloth = none;
      refused("mends()", y -> y.mends(), -2);
    }
  }

  private static void endures() {
    says(28, "0: it does not now; the ROW: the least set (none), 0 without");
    for (String one : new String[] {"1#", "1.", "1##", "2..", "2#.##", "2#..###", "6" + "#".repeat(36)}) {
      begin(one);
      due("endures()", x.endures(), 0);
      row(0, 0);
    }
    says(28, "The fewest NIGHTS behind which it does not HANG TOGETHER; the ROW: the least set of as few");
    begin("2#..#");
    due("endures()", x.endures(), 1);
    row(1, 0);
    begin("3#.#.#.");
    due("endures()", x.endures(), 1);
    row(1, 1);
    begin("2#..##.");
    due("the second pick, the first is not it", x.endures(), 1);
    row(2, 1);
    begin("4#.#..#.##.#..#.#");
    due("two of each", x.endures(), 2);
    row(5, 4);
    says(28, "the most THREADS that can be taken out, one by one, while it HANGS TOGETHER behind each");
    begin("2#..##..##..#");
    due("endures()", x.endures(), 1);
    row(64, 4);
    begin("6" + "#.#.#..#.#.#".repeat(3));
    due("endures()", x.endures(), 3);
    row(0b10101, 8);
  }

  // ---- how it looks: promises 29 to 33

  private static void differs() {
    says(29, "in how many CELLS it differs (none, all)");
    begin("3#.#.#.");
    due("itself", differs("3#.#.#."), 0);
    row(0, 0, 0);
    due("all", differs("3.#.#.#"), 6);
    row(0, 1, 0);
    due("one", differs("3#.#.##"), 1);
    row(1, 0, 0);
    due("count(7)", x.count(7), 0);
    says(29, "if its PICKS go round downwards and its ENDS to the right, each by any many, by how many (the last one)");
    begin("1.....#");
    due("down by all but one", differs("1#....."), 2);
    row(0, 5, 0);
    due("down by one", differs("1....#."), 2);
    row(0, 1, 0);
    begin("6.....#");
    due("right by all but one", differs("6#....."), 2);
    row(0, 0, 5);
    due("right by one", differs("6....#."), 2);
    row(0, 0, 1);
    begin("3......#..");
    due("both", differs("3.#......."), 2);
    row(0, 2, 2);
    begin("3.........");
    due("by three wherever it goes", differs("3###......"), 3);
    row(3, 0, 0);
    begin("6" + ".".repeat(36));
    due("all wherever it goes", differs("6" + "#".repeat(36)), 36);
    row(36, 0, 0);
    says(29, "of as good ones the least row");
    begin("2#..#");
    due("two ways", differs("2.##."), 4);
    row(0, 0, 1);
    due("four ways", differs("2####"), 2);
    row(2, 0, 0);
    says(29, "if it has as many PICKS and ENDS; -100: others");
    cloth = "3#.#.#.";
    Call call = y -> y.differs();
    for (String other : new String[] {"3#.#", "3#.#.#.#.#", "2#..#", "4#.#..#.#", "2#..##.", "1#", FULL}) {
      refused("differs()", other, call, -100);
    }
    says(29, "-1 - p: as cloth()");
    String[] texts = {"", "0", "7", "#", "2", "2#", "3#.#.#", "3#.#.#x", "1#######", "6" + "#".repeat(37), "3#.#2#.#"};
    int[] faults = {0, 0, 0, 0, 1, 2, 6, 6, 7, 37, 4};
    for (int n = 0; n < texts.length; n++) {
      refused("differs()", texts[n], call, -1 - faults[n]);
    }
  }

  private static void looks() {
    says(30, "1 .. 2 more .. 4 more .. 8 more (all, of one of each)");
    begin("1#");
    due("looks()", x.looks(), 15);
    row(0, 0, 0, 0);
    says(30, "none of them");
    begin("2##.#");
    due("looks()", x.looks(), 0);
    row(2, 2, 2, 2);
    says(30, "1 if it looks the same with PICKS in the other order");
    begin("2#.#.");
    due("looks()", x.looks(), 1);
    row(0, 4, 4, 2);
    says(30, "2 more if with ENDS so");
    begin("2##..");
    due("looks()", x.looks(), 2);
    row(4, 0, 4, 2);
    says(30, "4 more if with both so; 8 more if PICK i is OVER END k just if PICK k is OVER END i");
    begin("2#..#");
    due("looks()", x.looks(), 12);
    row(4, 4, 0, 0);
    begin("2#...");
    due("looks()", x.looks(), 8);
    row(2, 2, 2, 0);
    begin("3##..#..##");
    due("looks()", x.looks(), 4);
    row(4, 4, 0, 4);
    says(30, "NONE of the last one, if there are not as many");
    begin("3#.#.#.");
    due("looks()", x.looks(), 2);
    row(6, 0, 6, -1);
    begin("2#..##.");
    due("looks()", x.looks(), 1);
    row(0, 6, 6, -1);
    begin("2##");
    due("looks()", x.looks(), 7);
    row(0, 0, 0, -1);
    says(30, "in how many CELLS it is otherwise (all)");
    begin("6" + "#".repeat(18) + ".".repeat(18));
    due("looks()", x.looks(), 2);
    row(36, 0, 36, 18);
  }

  private static void repeats() {
    says(31, "The least number of PICKS behind which THE CLOTH repeats (the least: 1)");
    begin("1#");
    due("repeats()", x.repeats(), 1);
    row(1);
    begin(FULL);
    due("repeats()", x.repeats(), 1);
    row(3);
    says(31, "if there is one (it never does: as many as there are)");
    begin("2##.#");
    due("repeats()", x.repeats(), 2);
    row(2);
    begin("1.....#");
    due("repeats()", x.repeats(), 6);
    row(1);
    begin("6.....#");
    due("repeats()", x.repeats(), 1);
    row(6);
    says(31, "each PICK is like the one so many ahead of it (the last one, too, cut off)");
    begin("1#.#.#");
    due("repeats()", x.repeats(), 2);
    row(1);
    begin("1#.##");
    due("repeats()", x.repeats(), 3);
    row(1);
    begin("1##.#");
    due("repeats()", x.repeats(), 3);
    row(1);
    begin("1##.##.");
    due("repeats()", x.repeats(), 3);
    row(1);
    begin("5#.#.#");
    due("repeats()", x.repeats(), 1);
    row(2);
  }

  private static void runs() {
    says(32, "Runs of like CELLS along all PICKS: how many; the ROW: the longest (one of each)");
    begin("1#");
    due("runs()", x.runs(), 1);
    row(1, 1, 1);
    says(32, "the longest, runs along all ENDS, the longest of these (all alike)");
    begin("6" + "#".repeat(36));
    due("runs()", x.runs(), 6);
    row(6, 6, 6);
    begin("6######");
    due("runs()", x.runs(), 1);
    row(6, 6, 1);
    begin("1......");
    due("runs()", x.runs(), 6);
    row(1, 1, 6);
    says(32, "the longest (no two alike side by side)");
    begin("6" + "#.#.#..#.#.#".repeat(3));
    due("runs()", x.runs(), 36);
    row(1, 36, 1);
    says(32, "a run ends with its PICK; one at its end counts");
    begin("3##..##");
    due("runs()", x.runs(), 4);
    row(2, 5, 2);
    begin("4.###");
    due("the last one", x.runs(), 2);
    row(3, 4, 1);
    begin("4###.");
    due("the first one", x.runs(), 2);
    row(3, 4, 1);
  }

  private static void twins() {
    says(33, "how many; the ROW: the least pair (nothing without)");
    begin("2#..#");
    x.hangs();
    due("twins()", x.twins(), 0);
    row();
    says(33, "THREADS of one kind (not one of each)");
    begin("1#");
    x.hangs();
    due("twins()", x.twins(), 0);
    row();
    begin("2#..#");
    due("a pick has the cells of an end", x.twins(), 0);
    says(33, "Pairs of THREADS of one kind that are like each other (all)");
    begin("6" + "#".repeat(36));
    due("twins()", x.twins(), 30);
    row(0, 1);
    says(33, "the least pair (each by 6 times its kind and its number)");
    begin("6######");
    due("twins()", x.twins(), 15);
    row(6, 7);
    begin("1.##..#");
    due("twins()", x.twins(), 6);
    row(0, 3);
    begin("3#...####.");
    due("none of picks or ends", x.twins(), 0);
    begin("3#.##..###");
    due("the first and the last end: no", x.twins(), 0);
    begin("3#.##.####");
    due("the first two picks, the first and the last end", x.twins(), 2);
    row(0, 1);
    begin("3#.#.#.");
    due("the first and the last end", x.twins(), 1);
    row(6, 8);
  }

  // ---- a game; which it was: promises 34 to 38

  private static void game() {
    says(34, "0, too, if it does not HANG TOGETHER now; the ROW: nothing without");
    for (String one : new String[] {"1#", "1.", "2#.##", "2#..###", "6" + "#".repeat(36)}) {
      begin(one);
      due("game()", x.game(), 0);
      row();
    }
    says(34, "who takes one behind which THE CLOTH does not HANG TOGETHER has lost");
    begin("2#..#");
    due("game()", x.game(), 0);
    row();
    begin("3#.#.#.");
    due("game()", x.game(), 1);
    row(6);
    begin("3#.#.#.#.#");
    due("game()", x.game(), 0);
    row();
    says(34, "the least THREAD by which he does");
    begin("2#..##.");
    due("game()", x.game(), 1);
    row(0);
    begin("2.##..#");
    due("game()", x.game(), 1);
    row(0);
    begin("2#..#.#");
    due("game()", x.game(), 1);
    row(1);
  }

  private static void told() {
    int[] most = {1, 6, 5, 1, 5};
    String[] words = {"0: its kind is v (0, 1)", "1: it is OVER in v (0 .. 6) CELLS or more",
      "2: it changes v (0 .. 5) times or more", "3: it is LOOSE (1) or not (0)", "4: its number is v (0 .. 5) or less"};
    for (int what = 0; what < 5; what++) {
      says(35, words[what]);
      begin("3#.#.#.");
      due("told(" + what + ", 0)", x.told(what, 0), 3);
      due("told(" + what + ", " + most[what] + ")", x.told(what, most[what]), 4);
      due("count(4)", x.count(4), 4);
      says(35, "Refused: others");
      int kind = what;
      for (int v : new int[] {-1, most[what] + 1, LEAST, GREATEST}) {
        refused("told(" + what + ", " + v + ")", y -> y.told(kind, v), -1);
      }
    }
    for (int what : new int[] {-1, 5, LEAST, GREATEST}) {
      refused("told(" + what + ", 0)", y -> y.told(what, 0), -1);
      refused("told(" + what + ", -1)", y -> y.told(what, -1), -1);
    }
    says(35, "how many such");
    x = new SeaCloth();
    for (int n = 1; n <= 12; n++) {
      due("told(1, 0)", x.told(1, 0), n);
    }
    says(35, "Refused: 12");
    due("told(3, 1) behind 12", x.told(3, 1), -1);
    due("told(0, 0) behind 12", x.told(0, 0), -1);
    due("count(4)", x.count(4), 12);
    due("fits()", x.fits(), 65);
    says(35, "the last one counts, too");
    x.forget();
    for (int n = 1; n <= 11; n++) {
      x.told(1, 0);
    }
    due("told(0, 1)", x.told(0, 1), 12);
    due("fits()", x.fits(), 64);
    says(35, "a call that tells no ROW leaves it");
    begin("3#.#.#.");
    x.told(0, 0);
    row(1, 56);
  }

  private static void forget() {
    says(36, "It is forgotten: how many there were");
    begin("3#.#.#.");
    due("forget()", x.forget(), 2);
    due("count(4)", x.count(4), 0);
    due("fits()", x.fits(), 3 | 7 << 6);
    due("forget() of none", x.forget(), 0);
    for (int n = 0; n < 12; n++) {
      x.told(0, 0);
    }
    due("forget() of all", x.forget(), 12);
    due("told() then", x.told(0, 0), 1);
    due("forget() of one", x.forget(), 1);
    says(36, "nothing else changes");
    begin("3#.#.#.");
    x.forget();
    row(1, 56);
    looks("3#.#.#.");
    due("count(5)", x.count(5), 4);
  }

  private static void fit(int what, int v, int want) {
    x.forget();
    x.told(what, v);
    due("fits() told(" + what + ", " + v + ")", x.fits(), want);
    row(Integer.bitCount(want));
  }

  private static void fits() {
    says(37, "THREADS (bits) that fit all that was told (nothing)");
    fresh("3#.#.#.");
    due("fits()", x.fits(), 3 | 7 << 6);
    row(5);
    fresh(FULL);
    due("fits()", x.fits(), 4095);
    row(12);
    says(37, "its kind is v");
    fit(0, 0, 63);
    fit(0, 1, 63 << 6);
    says(37, "it is OVER in v CELLS or more");
    fit(1, 0, 4095);
    fit(1, 1, 63 | 0b010010 << 6);
    fit(1, 4, 63 | 0b010010 << 6);
    fit(1, 5, 0b010010 << 6);
    fit(1, 6, 0b010010 << 6);
    says(37, "it changes v times or more");
    fit(2, 0, 4095);
    fit(2, 1, 63);
    fit(2, 4, 63);
    fit(2, 5, 0);
    fresh("6" + "#.#.#..#.#.#".repeat(3));
    fit(2, 5, 4095);
    says(37, "it is LOOSE (1) or not (0)");
    fit(3, 0, 4095);
    fit(3, 1, 0);
    fresh("3##..#.###");
    fit(3, 1, 4 | 2 << 6);
    fit(3, 0, 3 | 5 << 6);
    says(37, "its number is v or less");
    fit(4, 0, 1 | 1 << 6);
    fit(4, 1, 3 | 3 << 6);
    fit(4, 2, 7 | 7 << 6);
    fit(4, 5, 7 | 7 << 6);
    says(37, "all that was told (none fits)");
    x.told(0, 0);
    x.told(0, 1);
    due("fits()", x.fits(), 0);
    row(0);
    says(37, "all that was told (both)");
    x.forget();
    x.told(0, 1);
    x.told(4, 0);
    due("fits()", x.fits(), 64);
    row(1);
  }

  private static void asks() {
    says(38, "-2: none fits");
    begin("3#.#.#.");
    x.told(0, 0);
    x.told(0, 1);
    due("asks()", x.asks(), -2);
    row(1, 56);
    cloth = "1#";
    SeaCloth y = used();
    y.told(3, 0);
    due("asks()", y.asks(), -2);
    same("the ROW", rowOf(y), "1 56 ");
    says(38, "the ROW: how many at most (of one that fits 1)");
    begin("1#");
    x.told(0, 1);
    x.forget();
    x.told(0, 1);
    due("asks()", x.asks(), 0);
    row(1);
    says(38, "10 times what and v, of equal ones the least");
    fresh("2#..#");
    due("asks()", x.asks(), 0);
    row(2);
    says(38, "as they may be told (to the last of each)");
    fresh("1######");
    x.told(0, 0);
    due("asks()", x.asks(), 42);
    row(3);
    fresh("6############.######.####");
    x.told(0, 0);
    due("over in six", x.asks(), 16);
    row(2);
    fresh("6#.#.#.#.#.#.#.#..##.#..#");
    x.told(0, 0);
    due("five changes", x.asks(), 25);
    row(2);
    says(38, "of those that fit alone");
    fresh("3#.#.#.");
    x.told(0, 0);
    due("asks()", x.asks(), 12);
    row(1);
    says(38, "it is asked, too, when 12 were told");
    for (int n = 0; n < 11; n++) {
      x.told(1, 0);
    }
    due("count(4)", x.count(4), 12);
    due("asks()", x.asks(), 12);
    row(1);
  }

  // ---- odds, laws, rests, years: promises 39 to 42

  private static void odds() {
    says(39, "p tenths (0 .. 10): none is lost");
    begin("2#..#");
    due("odds(0)", x.odds(0), 0);
    row(1, 1);
    says(39, "Fractions are told in lowest terms (0 by 1)");
    due("odds(10)", x.odds(10), 0);
    row(0, 1);
    begin("2#.##");
    due("odds(0)", x.odds(0), 0);
    row(0, 1);
    says(39, "what is left HANGS TOGETHER (one THREAD alone)");
    begin("1#");
    due("odds(5)", x.odds(5), 0);
    row(1, 2);
    due("odds(1)", x.odds(1), 0);
    row(9, 50);
    due("odds(9)", x.odds(9), 0);
    row(9, 50);
    due("odds(10)", x.odds(10), 0);
    row(0, 1);
    begin("2#..#");
    due("all four or one alone", x.odds(5), 0);
    row(5, 16);
    says(39, "of the largest one");
    begin("6" + "#".repeat(36));
    due("odds(5): one of twelve alone", x.odds(5), 0);
    row(3, 1024);
    due("odds(9)", x.odds(9), 0);
    row(94143178827L, 250000000000L);
    says(39, "NONE: another p");
    for (int p : new int[] {-1, 11, LEAST, GREATEST}) {
      refused("odds(" + p + ")", y -> y.odds(p), -1);
    }
  }

  private static void law() {
    says(40, "THE TEXT is another RULE (an empty one: none)");
    fresh("3#.#.#.");
    rule("k");
    due("law() of none", law(""), 2);
    row(4, 3);
    due("law() of c-i", law("c-i"), 2);
    row(4, 3);
    due("the same", law("k"), 0);
    row(3, 3);
    due("the rule yet", x.thread(1, 0, 4), 101);
    due("count(7)", x.count(7), 0);
    says(40, "in how many of the next 10 NIGHTS (the tenth, not the eleventh)");
    fresh("6######");
    rule("0");
    due("in the third and the tenth", law("k*(n=2)"), 2);
    row(5, 7);
    due("in the fourth", law("k*(n=3)"), 1);
    row(6, 7);
    x.nights(1);
    due("from this NIGHT on", law("k*(n=3)"), 2);
    row(5, 7);
    says(40, "nothing as -2");
    fresh("1#");
    rule("k");
    due("nothing goes by both", law("0-k"), 0);
    row(2, 2);
    says(40, "THREADS left by it, by THE RULE");
    fresh("2#..#");
    due("the first pick, the first end", law("k"), 1);
    row(3, 3);
    says(40, "-10000 - p: the sign at p can't stand there (as rule())");
    cloth = "3#.#.#.";
    Call call = y -> y.law();
    String most = "-".repeat(39) + "1";
    String[] texts = {"x", "+", "1x", "c+", "(", "(((((1", "1234", "1<2<3", "1)", most.substring(1) + "x", most + "1",
      "1+".repeat(20), most + most, "1~"};
    int[] faults = {0, 0, 1, 2, 1, 4, 3, 3, 1, 39, 40, 40, 40, 1};
    for (int n = 0; n < texts.length; n++) {
      refused("law()", texts[n], call, -10000 - faults[n]);
    }
    begin("3#.#.#.");
    due("law() of 40", law(most), 0);
  }

  private static void rests() {
    says(41, "v (0 .. 20) yards: how many; the ROW: the least");
    x = new SeaCloth();
    for (int v = 0; v <= 20; v++) {
      int[] due = rest(v);
      due("rests(" + v + ")", x.rests(v), due[0]);
      if (due[0] > 0) {
        row(due[1], due[2]);
      } else {
        row();
      }
    }
    due("rests(0)", x.rests(0), 82);
    row(0, 0);
    due("rests(20): both ask for 9", x.rests(20), 1);
    row(9, 9);
    says(41, "if both together are v or less, each has what it asks");
    due("rests(18): 9 and 9 are not more", x.rests(18), 1);
    row(9, 9);
    due("rests(17): 9 and 9 are more", x.rests(17), 2);
    row(8, 9);
    says(41, "NONE: another v");
    cloth = "3#.#.#.";
    for (int v : new int[] {-1, 21, LEAST, GREATEST}) {
      refused("rests(" + v + ")", y -> y.rests(v), -1);
    }
  }

  /** How many pairs rest, and the least one. */
  private static int[] rest(int v) {
    int[] found = new int[3];
    for (int x = 9; x >= 0; x--) {
      for (int y = 9; y >= 0; y--) {
        boolean rests = true;
        for (int other = 0; other <= 9; other++) {
          rests &= has(other, y, v) <= has(x, y, v) && has(other, x, v) <= has(y, x, v);
        }
        if (rests) {
          found = new int[] {found[0] + 1, x, y};
        }
      }
    }
    return found;
  }

  private static int has(int asks, int other, int v) {
    if (asks + other <= v) {
      return asks;
    }
    int part = v / 2;
    if (asks < other) {
      part = asks < v ? asks : v;
    } else if (asks > other) {
      part = other < v ? v - other : 0;
    }
    return part - 1;
  }

  /** A seed whose first DRAW of 4 is as told, and the state behind that. */
  private static int[] seedFor(int first, int from) {
    for (int seed = from; ; seed++) {
      int r = seed * 1103515245 + 12345;
      if ((r >>> 16) % 4 == first) {
        return new int[] {seed, r};
      }
    }
  }

  private static int after(int r) {
    return r * 1103515245 + 12345;
  }

  private static void years() {
    says(42, "n times (1 .. 60): how many THREADS there are then");
    begin("1#");
    for (int kind = 0; kind < 2; kind++) {
      int seed = seedFor(kind, 0)[0];
      due("years(" + seed + ", 1)", x.years(seed, 1), 2);
      row(1, 0);
    }
    due("years(1, 60)", x.years(1, 60) >= 2, true);
    says(42, "NONE: another n");
    for (int n : new int[] {0, -1, 61, LEAST, GREATEST}) {
      refused("years(1, " + n + ")", y -> y.years(1, n), -1);
    }
    says(42, "0, 1: A NIGHT");
    fresh("3#.#.#.");
    for (int kind = 0; kind < 2; kind++) {
      int seed = seedFor(kind, -9)[0];
      due("years(" + seed + ", 1)", x.years(seed, 1), 4);
      row(1, 0);
    }
    says(42, "2: a DRAW of PICKS, a DRAW of ENDS tell where flips() is; (R without sign, by 65536) % n");
    for (int from = -40; from < 40; from++) {
      int[] drawn = seedFor(2, from * 53687091);
      int r = after(drawn[1]);
      int pick = (r >>> 16) % 5;
      int end = (after(r) >>> 16) % 6;
      char[] signs = ("6" + ".".repeat(30)).toCharArray();
      signs[1 + 6 * pick + end] = '#';
      fresh(new String(signs));
      due("years(" + drawn[0] + ", 1)", x.years(drawn[0], 1), 11);
      row(0, 0);
    }
    says(42, "1 if it HANGS TOGETHER then, else 0");
    fresh("2#.##");
    for (int from = 0; from < 40; from++) {
      int[] drawn = seedFor(2, from * 53687091);
      int r = after(drawn[1]);
      boolean mends = (r >>> 16) % 2 == 1 && (after(r) >>> 16) % 2 == 0;
      due("years(" + drawn[0] + ", 1)", x.years(drawn[0], 1), 4);
      due("row(1)", x.row(1), mends ? 1 : 0);
    }
  }

  private static void yearsWoven() {
    says(42, "3: a kind, a number, CELLS (the lowest bits) of a THREAD that is woven in");
    for (int from = -40; from < 40; from++) {
      int[] drawn = seedFor(3, from * 53687091);
      int kindDrawn = after(drawn[1]);
      int numberDrawn = after(kindDrawn);
      int cellsDrawn = after(numberDrawn);
      int kind = (kindDrawn >>> 16) % 2;
      int v = (cellsDrawn >>> 16) % 64;
      fresh("3######");
      due("years(" + drawn[0] + ", 1)", x.years(drawn[0], 1), 6);
      int over = kind == 0 ? Integer.bitCount(v & 7) : 2 - Integer.bitCount(v & 3);
      row(6 + over, clothHangs(kind, (numberDrawn >>> 16) % (kind == 0 ? 3 : 4), v));
      says(42, "if it can be");
      fresh(FULL);
      due("years(" + drawn[0] + ", 1)", x.years(drawn[0], 1), 12);
      row(24, 0);
      says(42, "3: a kind, a number, CELLS (the lowest bits) of a THREAD that is woven in");
    }
    says(42, "it changes nothing");
    cloth = "3#.#.#.";
    question("years(5, 60)", y -> y.years(5, 60));
  }

  /** Years are as the calls that they tell of would be, one after the other. */
  private static void yearsByCalls() {
    String[] cloths = {"1#", "3#.#.#.", "2#..###", FULL, "6" + "#.#.#..#.#.#".repeat(3), "4##..#.#..###"};
    String[] rules = {"", "i", "(n=3)*9+k*i", "s-o", "e*k+c", "(k=0)*(i=1)"};
    for (int n : new int[] {1, 2, 3, 4, 5, 6, 59, 60}) {
      says(42, "n times (" + n + "): A NIGHT; flips(); a THREAD that is woven in, if it can be");
      for (int c = 0; c < cloths.length; c++) {
        for (int from = -20; from < 20; from++) {
          int seed = from * 107374183 + c;
          fresh(cloths[c]);
          rule(rules[c]);
          SeaCloth y = new SeaCloth();
          tell(y, cloths[c]);
          y.cloth();
          tell(y, rules[c]);
          y.rule();
          liveYears(y, seed, n);
          due("years(" + seed + ", " + n + ")", x.years(seed, n), y.count(0) + y.count(1));
          row(y.count(3), y.hangs());
          looks(cloths[c]);
        }
      }
    }
  }

  private static void liveYears(SeaCloth y, int seed, int n) {
    int r = seed;
    for (int turn = 0; turn < n; turn++) {
      r = after(r);
      int what = (r >>> 16) % 4;
      if (what < 2) {
        y.nights(1);
      } else if (what == 2) {
        r = after(r);
        int pick = (r >>> 16) % y.count(0);
        r = after(r);
        y.flips(pick, (r >>> 16) % y.count(1));
      } else {
        r = after(r);
        int kind = (r >>> 16) % 2;
        r = after(r);
        int number = (r >>> 16) % (y.count(kind) + 1);
        r = after(r);
        y.weaves(kind, number, (r >>> 16) % 64 & (1 << y.count(1 - kind)) - 1);
      }
    }
  }

  /** Whether 3###### hangs together when a thread is woven in: of all over no one does but by what comes. */
  private static int clothHangs(int kind, int number, int v) {
    SeaCloth y = new SeaCloth();
    tell(y, "3######");
    y.cloth();
    y.weaves(kind, number, v & (kind == 0 ? 7 : 3));
    return y.hangs();
  }

  // ---- kept: promises 43 to 46

  private static void keeps() {
    says(43, "kept under a number 0 .. 2: true");
    for (int i = 0; i < 3; i++) {
      begin("3#.#.#.");
      due("keep(" + i + ")", x.keep(i), true);
      x.nights(2);
      due("again(" + i + ")", x.again(i), true);
      looks("3#.#.#.");
      due("count(2)", x.count(2), 1);
    }
    says(43, "Refused: others");
    for (int i : new int[] {-1, 3, LEAST, GREATEST}) {
      refused("keep(" + i + ")", y -> y.keep(i) ? 1 : 0, 0);
    }
    says(43, "What undo() brings back is kept (THE CLOTH, NIGHT)");
    begin("3#.#.#.");
    x.keep(2);
    rule("9");
    x.told(0, 0);
    x.hangs();
    x.flips(0, 0);
    due("again(2)", x.again(2), true);
    due("the rule", x.thread(0, 0, 4), 109);
    due("count(4)", x.count(4), 3);
    row(1, 451);
    due("count(7)", x.count(7), 0);
    says(43, "under one number the latest alone");
    x.keep(2);
    x.flips(0, 0);
    x.keep(2);
    x.flips(0, 1);
    due("again(2)", x.again(2), true);
    looks("3..#.#.");
    says(43, "each number for itself");
    x.keep(0);
    x.mirrors(0);
    x.keep(1);
    x.nights(1);
    due("again(0)", x.again(0), true);
    looks("3..#.#.");
    due("again(1)", x.again(1), true);
    looks("3.#...#");
    due("again(2)", x.again(2), true);
    looks("3..#.#.");
    says(43, "what can be undone stays");
    begin("3#.#.#.");
    x.keep(0);
    due("count(5)", x.count(5), 4);
  }

  private static void agains() {
    says(44, "It is as it was kept under a number (more than once)");
    begin("3#.#.#.");
    for (int n = 0; n < 3; n++) {
      x.nights(7);
      due("again(0)", x.again(0), true);
      looks("3#.#.#.");
      due("count(2)", x.count(2), 1);
      due("count(5)", x.count(5), 0);
    }
    says(44, "Refused: nothing kept");
    for (int i : new int[] {2, 3, -1, LEAST, GREATEST}) {
      refused("again(" + i + ")", y -> y.again(i) ? 1 : 0, 0);
    }
    says(44, "Refused: THE CLOTH was told anew since");
    begin("3#.#.#.");
    cloth("3#.#.#.");
    x.flips(0, 0);
    for (int i = 0; i < 3; i++) {
      due("again(" + i + ")", x.again(i), false);
    }
    due("count(5)", x.count(5), 1);
    looks("3..#.#.");
    says(44, "kept since it was told anew");
    x.keep(1);
    x.flips(0, 0);
    due("again(1)", x.again(1), true);
    looks("3..#.#.");
    due("again(0)", x.again(0), false);
    says(44, "THE CLOTH was not told anew by a refused cloth(), by sheet(), rags(), differs()");
    begin("3#.#.#.");
    cloth("3#");
    x.sheet(3, 0, 0, 0);
    rags("1#");
    differs("3#.#.#.");
    due("again(0)", x.again(0), true);
    looks("3#.#.#.");
  }

  private static void counts() {
    says(45, "What 0: PICKS, 1: ENDS, 2: NIGHT, 3: CELLS .., 4: what was told, 5: what can be undone, 6: .., 7: ..");
    begin("3#.#.#.");
    long[] due = {2, 3, 1, 3, 2, 4, 2, 5};
    for (int what = 0; what < 8; what++) {
      due("count(" + what + ")", x.count(what), due[what]);
    }
    begin("6" + "#".repeat(36));
    due("count(0)", x.count(0), 6);
    due("count(1)", x.count(1), 6);
    due("count(3)", x.count(3), 36);
    begin("6" + ".".repeat(36));
    due("count(3)", x.count(3), 0);
    due("a full text", countOfSigns(), 80);
    says(45, "-100 for another what");
    for (int what : new int[] {8, -1, LEAST, GREATEST}) {
      refused("count(" + what + ")", y -> y.count(what), -100);
    }
  }

  private static int countOfSigns() {
    tell(x, "#".repeat(80));
    return x.count(7);
  }

  private static void rows() {
    says(46, "Number i of the ROW");
    begin("3#.#.#.");
    due("row(0)", x.row(0), 1);
    due("row(1)", x.row(1), 56);
    says(46, "NoSuchElementException: none such");
    for (int i : new int[] {2, 3, 8, -1, LEAST, GREATEST}) {
      thrown("row(" + i + ")", y -> y.row(i));
    }
    says(46, "NoSuchElementException: none such (of none)");
    for (int i : new int[] {0, 1, -1}) {
      boolean thrown = false;
      try {
        new SeaCloth().row(i);
      } catch (NoSuchElementException e) {
        thrown = true;
      }
      due("row(" + i + ") throws", thrown, true);
    }
    says(46, "Number i of the ROW (the longest one)");
    begin(FULL);
    x.later(0);
    due("row(7)", x.row(7), 45);
    due("count(6)", x.count(6), 8);
    boolean thrown = false;
    try {
      x.row(8);
    } catch (NoSuchElementException e) {
      thrown = true;
    }
    due("row(8) throws", thrown, true);
    says(46, "numbers told last by a call that says so (a shorter row behind a longer one)");
    x.next();
    row(109);
    says(46, "the ROW stays behind calls that tell none");
    x.weaves(0, 0, 9);
    x.draws(1, 0);
    x.flips(0, 0);
    x.mirrors(0);
    x.undo();
    x.sheet(0, 1, 1, 1);
    rule("1");
    x.told(0, 0);
    x.forget();
    x.keep(0);
    x.again(0);
    x.count(0);
    x.thread(0, 0, 0);
    x.cell(0, 0);
    cloth("2#..#");
    row(109);
  }

  private static void questions() {
    Call[] asked = {y -> y.next(), y -> y.later(9), y -> y.falls(), y -> y.lefts(2), y -> y.outlasts(), y -> y.words(5, 0),
      y -> y.loose(), y -> y.sheds(), y -> y.hangs(), y -> y.spares(), y -> y.mends(), y -> y.endures(), y -> y.looks(),
      y -> y.repeats(), y -> y.runs(), y -> y.twins(), y -> y.game(), y -> y.fits(), y -> y.asks(), y -> y.odds(3),
      y -> y.rests(7), y -> y.years(77, 33), y -> y.count(3), y -> y.cell(0, 0), y -> y.thread(1, 0, 4), y -> y.row(0)};
    int[] numbers = {16, 17, 18, 20, 21, 22, 23, 24, 25, 26, 27, 28, 30, 31, 32, 33, 34, 37, 38, 39, 41, 42, 45, 6, 7, 46};
    for (String one : new String[] {"1#", "3#.#.#.", "2#..#", "2#.##", "2####", FULL, "6" + "#.#.#..#.#.#".repeat(3)}) {
      cloth = one;
      for (int n = 0; n < asked.length; n++) {
        says(numbers[n], "Questions change nothing");
        question("the question", asked[n]);
      }
      reads(19, "rags", "1#", y -> y.rags());
      reads(29, "differs", one, y -> y.differs());
      reads(40, "law", "o*9-k", y -> y.law());
    }
  }

  /** What was asked, told or refused ahead of a question does not count: it is answered as by a new object. */
  private static void askedAgain() {
    Call[] asked = {y -> y.next(), y -> y.later(3), y -> y.falls(), y -> y.lefts(1), y -> y.lefts(2), y -> y.outlasts(),
      y -> y.loose(), y -> y.sheds(), y -> y.hangs(), y -> y.spares(), y -> y.mends(), y -> y.endures(), y -> y.looks(),
      y -> y.repeats(), y -> y.runs(), y -> y.twins(), y -> y.game(), y -> y.fits(), y -> y.asks(), y -> y.odds(3),
      y -> y.rests(7), y -> y.years(77, 33)};
    int[] numbers = {16, 17, 18, 20, 20, 21, 23, 24, 25, 26, 27, 28, 30, 31, 32, 33, 34, 37, 38, 39, 41, 42};
    String[] cloths = {"5.#####.#####.####...##.##", "3#.#.#.", "6##.#.##.##..####....#.#...#...", "2#..#", "3#.#.#.#.#",
      "6" + "#.#.#..#.#.#".repeat(3), FULL, "1#", "2####", "4#.#..#.##.#..#.#", "2#..##.", "2.##..#"};
    for (int n = 0; n < asked.length; n++) {
      for (int other = 0; other < asked.length; other++) {
        says(numbers[n], "the same question has the same answer, whatever was asked ahead");
        SeaCloth y = new SeaCloth();
        for (String one : cloths) {
          tell(y, one + "x");
          y.cloth();
          tell(y, one);
          y.cloth();
          asked[other].of(y);
          tell(y, "3#.x");
          y.rags();
          fresh(one);
          String ahead = rowOf(y);
          long answer = asked[n].of(y);
          due("the question behind that of promise " + numbers[other], answer, asked[n].of(x));
          same("the ROW", rowOf(y), answer < 0 ? ahead : rowOf(x));
        }
      }
    }
  }

  private static void reads(int number, String call, String text, Call c) {
    says(number, "Questions change nothing; THE TEXT, which a call that reads it empties");
    SeaCloth y = used();
    tell(y, text);
    c.of(y);
    SeaCloth z = used();
    z.end(0);
    same("behind " + call, all(y, false), all(z, false));
  }
}
