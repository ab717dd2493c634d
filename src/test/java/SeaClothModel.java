import java.util.ArrayDeque;
import java.util.ArrayList;
import java.util.Arrays;
import java.util.Collections;
import java.util.Deque;
import java.util.HashSet;
import java.util.List;
import java.util.NoSuchElementException;
import java.util.Random;
import java.util.Set;
import java.util.TreeSet;

/**
 * Draws many runs of calls and compares each answer, the row and the whole state with a model that
 * is written from the document a second time, in another way (texts and lists instead of bits).
 */
public final class SeaClothModel {
  static final long THROWS = Long.MIN_VALUE;
  private static final String[] CALLS = {
    "cloth", "cloth", "rule", "cell", "thread", "sheet", "nights", "weaves", "weaves", "draws",
    "flips", "mirrors", "work", "work", "undo", "next", "later", "falls", "rags", "lefts",
    "outlasts", "words", "loose", "sheds", "hangs", "spares", "mends", "endures", "differs",
    "looks", "repeats", "runs", "twins", "game", "told", "forget", "fits", "asks", "odds", "law",
    "rests", "years", "keep", "again", "count", "row", "sign", "end"};

  /** Of what is asked again and again of one cloth that hangs together. */
  private static final String[] HOLDS = {
    "hangs", "spares", "mends", "endures", "endures", "game", "game", "odds", "falls", "sheds", "lefts", "rags", "years",
    "flips", "undo"};

  private final Random random;
  private final SeaCloth real = new SeaCloth();
  private final Model model = new Model();
  private final List<String> history = new ArrayList<>();
  private boolean holding = false;

  private SeaClothModel(long seed) {
    random = new Random(seed);
  }

  public static void main(String[] args) {
    int objects = args.length > 0 ? Integer.parseInt(args[0]) : 250;
    long from = args.length > 1 ? Long.parseLong(args[1]) : 1;
    for (int n = 0; n < objects; n++) {
      SeaClothModel one = new SeaClothModel(from + n);
      if (!one.run(300)) {
        System.out.println("run " + (from + n) + ": " + String.join("; ", one.history));
        System.exit(1);
      }
    }
    System.out.println(objects + " runs are as the model");
  }

  private boolean run(int calls) {
    boolean calm = random.nextBoolean();
    holding = random.nextInt(5) == 0;
    for (int n = 0; n < calls; n++) {
      String name = CALLS[random.nextInt(CALLS.length)];
      if (name.equals("forget") && random.nextInt(3) > 0) {
        name = "told";
      }
      if (calm && n > 20 && (name.equals("cloth") || name.equals("again"))) {
        name = "flips";
      }
      if (holding) {
        name = n % 20 == 0 ? "cloth" : HOLDS[random.nextInt(HOLDS.length)];
      }
      if (!tellTextFor(name)) {
        return false;
      }
      if (!same(name, argsFor(name)) || !sameState()) {
        return false;
      }
    }
    return true;
  }

  private boolean tellTextFor(String name) {
    String text;
    switch (name) {
      case "cloth": text = holding ? hangingText() : clothText(1 + random.nextInt(6), 1 + random.nextInt(6)); break;
      case "rags": text = ragText(); break;
      case "differs":
        text = random.nextInt(4) == 0 ? clothText(1 + random.nextInt(6), 1 + random.nextInt(6))
            : differentText();
        break;
      case "rule":
      case "law": text = ruleText(); break;
      case "work": text = workText(); break;
      default: return true;
    }
    if (random.nextInt(6) == 0) {
      text = spoiled(text);
    }
    if (text.length() > 80) {
      text = text.substring(0, 80);
    }
    if (!same("end", 0)) {
      return false;
    }
    for (int p = 0; p < text.length(); p += 4) {
      int v = 0;
      for (int k = 0; k < 4; k++) {
        v = v << 8 | (p + k < text.length() ? text.charAt(p + k) : 0);
      }
      if (!same("sign", v)) {
        return false;
      }
    }
    return same("end", text.length());
  }

  private String clothText(int picks, int ends) {
    StringBuilder s = new StringBuilder().append(ends);
    int often = 1 + random.nextInt(3);
    for (int i = 0; i < picks * ends; i++) {
      s.append(random.nextInt(4) < often ? '#' : '.');
    }
    return s.toString();
  }

  /** Mostly a cloth that hangs together. */
  private String hangingText() {
    String text = clothText(2 + random.nextInt(5), 2 + random.nextInt(5));
    for (int n = 0; n < 60 && !Model.hangsTogether(text); n++) {
      text = clothText(2 + random.nextInt(5), 2 + random.nextInt(5));
    }
    return text;
  }

  private String ragText() {
    List<String> picks = new ArrayList<>(model.picks);
    while (picks.size() > 1 && random.nextInt(3) > 0) {
      picks.remove(random.nextInt(picks.size()));
    }
    while (picks.get(0).length() > 1 && random.nextInt(3) > 0) {
      int e = random.nextInt(picks.get(0).length());
      picks.replaceAll(p -> p.substring(0, e) + p.substring(e + 1));
    }
    return picks.get(0).length() + String.join("", picks);
  }

  private String differentText() {
    List<String> picks = new ArrayList<>(model.picks);
    Collections.rotate(picks, random.nextInt(6));
    int by = random.nextInt(picks.get(0).length());
    picks.replaceAll(p -> p.substring(by) + p.substring(0, by));
    char[] s = (picks.get(0).length() + String.join("", picks)).toCharArray();
    for (int n = random.nextInt(4); n > 0; n--) {
      int p = 1 + random.nextInt(s.length - 1);
      s[p] = s[p] == '#' ? '.' : '#';
    }
    return new String(s);
  }

  private String ruleText() {
    if (random.nextInt(12) == 0) {
      return "";
    }
    if (random.nextInt(12) == 0) {
      StringBuilder s = new StringBuilder();
      for (int n = random.nextInt(30); n >= 0; n--) {
        s.append("kioclesn0123456789+-*/<>=()".charAt(random.nextInt(27)));
      }
      return s.toString();
    }
    String s = expression(0);
    for (int n = 0; n < 20 && s.length() > 44; n++) {
      s = expression(0);
    }
    return s;
  }

  private String expression(int depth) {
    String s = sum(depth);
    return random.nextInt(4) == 0 ? s + "<>=".charAt(random.nextInt(3)) + sum(depth) : s;
  }

  private String sum(int depth) {
    StringBuilder s = new StringBuilder(thing(depth));
    for (int n = random.nextInt(4); n > 0; n--) {
      s.append("+-*/".charAt(random.nextInt(4))).append(thing(depth));
    }
    return s.toString();
  }

  private String thing(int depth) {
    String minus = random.nextInt(5) == 0 ? "-".repeat(1 + random.nextInt(3)) : "";
    int what = random.nextInt(10);
    if (what < 2 && depth < 5) {
      return minus + "(" + expression(depth + 1) + ")";
    }
    if (what < 4) {
      return minus + random.nextInt(random.nextBoolean() ? 12 : 1000);
    }
    return minus + "kioclesn".charAt(random.nextInt(8));
  }

  private String workText() {
    StringBuilder s = new StringBuilder();
    int acts = random.nextInt(random.nextInt(6) == 0 ? 30 : 7);
    for (int n = 0; n < acts; n++) {
      int kind = random.nextInt(2);
      int size = kind == 0 ? model.picks.size() : model.ends();
      switch (random.nextInt(5)) {
        case 0: s.append('n').append(random.nextInt(4)); break;
        case 1:
          s.append('w').append(kind).append(random.nextInt(size + 1)).append(random.nextInt(10) / 7)
              .append(random.nextInt(10) / (1 + random.nextInt(3)));
          break;
        case 2: s.append('d').append(kind).append(random.nextInt(size)); break;
        case 3:
          s.append('t').append(random.nextInt(model.picks.size())).append(random.nextInt(model.ends()));
          break;
        default: s.append('m').append(kind);
      }
    }
    return s.toString();
  }

  private String spoiled(String text) {
    int p = random.nextInt(text.length() + 1);
    switch (random.nextInt(5)) {
      case 0: return text.substring(0, p);
      case 4: return text.substring(0, p) + (char) random.nextInt(256) + text.substring(p);
      case 1: return text.substring(0, p) + "#.0179 ncwx(\u00e9".charAt(random.nextInt(13)) + text.substring(p);
      case 2: return text + text;
      default: return p < text.length() ? text.substring(0, p) + text.substring(p + 1) : text;
    }
  }

  private int about(int most) {
    if (random.nextInt(60) == 0) {
      return new int[] {Integer.MIN_VALUE, Integer.MAX_VALUE, 100, -100, 65536, 1 << 31 - 6}[random.nextInt(6)];
    }
    return random.nextInt(12) == 0 ? most + 1 - random.nextInt(2) * (most + 2) : random.nextInt(most + 1);
  }

  private int[] argsFor(String name) {
    int kind = about(1);
    int size = kind == 0 ? model.picks.size() : model.ends();
    int cross = kind == 0 ? model.ends() : model.picks.size();
    switch (name) {
      case "cell": case "flips": return new int[] {about(model.picks.size() - 1), about(model.ends() - 1)};
      case "thread": return new int[] {kind, about(size - 1), about(4)};
      case "sheet": return new int[] {about(3), about(6), random.nextInt(), random.nextInt()};
      case "nights": case "later": return new int[] {random.nextInt(2) == 0 ? about(60) : random.nextInt(4)};
      case "weaves": return new int[] {kind, about(size), about((1 << cross) - 1)};
      case "draws": return new int[] {kind, about(size - 1)};
      case "mirrors": return new int[] {kind};
      case "lefts": return new int[] {about(4)};
      case "words": { int n = about(6); return new int[] {n, about(Math.max(0, Math.min(n, 7)))}; }
      case "told": { int w = about(4); return new int[] {w, about(w < 0 || w > 4 ? 3 : Model.MOST[w])}; }
      case "odds": return new int[] {about(10)};
      case "rests": return new int[] {about(20)};
      case "years": return new int[] {random.nextInt(), about(60)};
      case "keep": case "again": return new int[] {about(2)};
      case "count": return new int[] {about(7)};
      case "row": return new int[] {about(3)};
      case "sign": return new int[] {random.nextInt()};
      case "end": return new int[] {about(model.text.length())};
      default: return new int[0];
    }
  }

  private boolean same(String name, int... args) {
    long got = onReal(name, args);
    long due = model.call(name, args);
    history.add(name + Arrays.toString(args) + "=" + got + " cloth " + model.shape());
    if (got != due) {
      System.out.println(name + Arrays.toString(args) + " answered " + got + ", the model " + due);
    }
    return got == due;
  }

  private boolean sameState() {
    for (int what = 0; what < 8; what++) {
      if (real.count(what) != model.call("count", what)) {
        System.out.println("count(" + what + ") is " + real.count(what));
        return false;
      }
    }
    List<Long> row = new ArrayList<>();
    for (int i = 0; i < real.count(6); i++) {
      row.add(real.row(i));
    }
    if (!row.equals(model.row)) {
      System.out.println("the row is " + row + ", the model's " + model.row);
      return false;
    }
    for (int p = 0; p < real.count(0); p++) {
      for (int e = 0; e < real.count(1); e++) {
        if (real.cell(p, e) != (model.picks.get(p).charAt(e) == '#' ? 1 : 0)) {
          System.out.println("another cell at " + p + ", " + e);
          return false;
        }
      }
    }
    return true;
  }

  private long onReal(String name, int[] a) {
    try {
      switch (name) {
        case "sign": return real.sign(a[0]);
        case "end": return real.end(a[0]) ? 1 : 0;
        case "cloth": return real.cloth();
        case "rule": return real.rule();
        case "cell": return real.cell(a[0], a[1]);
        case "thread": return real.thread(a[0], a[1], a[2]);
        case "sheet": return real.sheet(a[0], a[1], a[2], a[3]);
        case "nights": return real.nights(a[0]);
        case "weaves": return real.weaves(a[0], a[1], a[2]);
        case "draws": return real.draws(a[0], a[1]);
        case "flips": return real.flips(a[0], a[1]);
        case "mirrors": return real.mirrors(a[0]);
        case "work": return real.work();
        case "undo": return real.undo();
        case "next": return real.next();
        case "later": return real.later(a[0]);
        case "falls": return real.falls();
        case "rags": return real.rags();
        case "lefts": return real.lefts(a[0]);
        case "outlasts": return real.outlasts();
        case "words": return real.words(a[0], a[1]);
        case "loose": return real.loose();
        case "sheds": return real.sheds();
        case "hangs": return real.hangs();
        case "spares": return real.spares();
        case "mends": return real.mends();
        case "endures": return real.endures();
        case "differs": return real.differs();
        case "looks": return real.looks();
        case "repeats": return real.repeats();
        case "runs": return real.runs();
        case "twins": return real.twins();
        case "game": return real.game();
        case "told": return real.told(a[0], a[1]);
        case "forget": return real.forget();
        case "fits": return real.fits();
        case "asks": return real.asks();
        case "odds": return real.odds(a[0]);
        case "law": return real.law();
        case "rests": return real.rests(a[0]);
        case "years": return real.years(a[0], a[1]);
        case "keep": return real.keep(a[0]) ? 1 : 0;
        case "again": return real.again(a[0]) ? 1 : 0;
        case "count": return real.count(a[0]);
        case "row": return real.row(a[0]);
        default: throw new IllegalArgumentException(name);
      }
    } catch (NoSuchElementException e) {
      return THROWS;
    }
  }
}

/** A fault in a text, at a place. */
final class Fault extends RuntimeException {
  private static final long serialVersionUID = 1L;
  final int at;

  Fault(int at) {
    this.at = at;
  }
}

/** A cloth that is kept. */
final class Snap {
  final List<String> picks;
  final int night;

  Snap(List<String> picks, int night) {
    this.picks = new ArrayList<>(picks);
    this.night = night;
  }
}

/** A rule that is read and told at once, by recursive descent. */
final class RuleReader {
  private final String s;
  private int p = 0;
  private final int[] traits;

  private RuleReader(String s, int[] traits) {
    this.s = s;
    this.traits = traits;
  }

  static int pull(String s, int[] traits) {
    RuleReader r = new RuleReader(s.isEmpty() ? "c-i" : s, traits);
    int v = r.expression(0);
    if (r.p < r.s.length()) {
      throw new Fault(r.p);
    }
    return v > 99 ? 99 : v < -99 ? -99 : v;
  }

  static void check(String s) {
    try {
      pull(s.length() > 40 ? s.substring(0, 40) : s, new int[8]);
    } catch (Fault f) {
      throw f;
    }
    if (s.length() > 40) {
      throw new Fault(40);
    }
  }

  private char look() {
    return p < s.length() ? s.charAt(p) : '\uffff';
  }

  private int expression(int depth) {
    int a = sum(depth);
    char c = look();
    if (c == '<' || c == '>' || c == '=') {
      p++;
      int b = sum(depth);
      return (c == '<' ? a < b : c == '>' ? a > b : a == b) ? 1 : 0;
    }
    return a;
  }

  private int sum(int depth) {
    int a = product(depth);
    while (look() == '+' || look() == '-') {
      char c = s.charAt(p++);
      int b = product(depth);
      a = c == '+' ? a + b : a - b;
    }
    return a;
  }

  private int product(int depth) {
    int a = thing(depth);
    while (look() == '*' || look() == '/') {
      char c = s.charAt(p++);
      int b = thing(depth);
      a = c == '*' ? a * b : b == 0 ? 0 : a / b;
    }
    return a;
  }

  private int thing(int depth) {
    char c = look();
    if (c == '-') {
      p++;
      return -thing(depth);
    }
    if (c == '(' && depth < 4) {
      p++;
      int v = expression(depth + 1);
      if (look() != ')') {
        throw new Fault(p);
      }
      p++;
      return v;
    }
    int trait = "kioclesn".indexOf(c);
    if (trait >= 0) {
      p++;
      return traits[trait];
    }
    int from = p;
    while (p - from < 3 && look() >= '0' && look() <= '9') {
      p++;
    }
    if (p == from) {
      throw new Fault(p);
    }
    return Integer.parseInt(s.substring(from, p));
  }
}

/** The document once more. */
final class Model {
  static final int[] MOST = {1, 6, 5, 1, 5};
  List<String> picks = new ArrayList<>(List.of("#"));
  int night = 0;
  String rule = "";
  String text = "";
  List<Long> row = new ArrayList<>();
  private final Deque<Snap> past = new ArrayDeque<>();
  private final Snap[] kept = new Snap[3];
  private final List<int[]> told = new ArrayList<>();
  private int chance;

  int ends() {
    return picks.get(0).length();
  }

  String shape() {
    return shape(picks);
  }

  static String shape(List<String> picks) {
    return picks.get(0).length() + String.join(",", picks);
  }

  long call(String name, int... a) {
    switch (name) {
      case "sign": return sign(a[0]);
      case "end":
        if (a[0] < 0 || a[0] > text.length()) return 0;
        text = text.substring(0, a[0]);
        return 1;
      case "cloth": case "rule": case "work": case "rags": case "differs": case "law": return reading(name);
      case "cell": return has(picks, 0, a[0]) && has(picks, 1, a[1]) ? over(picks, a[0], a[1]) : SeaClothModel.THROWS;
      case "thread": return thread(a[0], a[1], a[2]);
      case "sheet": return sheet(a[0], a[1], a[2], a[3]);
      case "nights": case "weaves": case "draws": case "flips": case "mirrors": {
        Snap ahead = new Snap(picks, night);
        long answer = act(name, a);
        if (answer >= 0) note(ahead);
        return answer;
      }
      case "undo":
        if (past.isEmpty()) return -1;
        back(past.removeLast());
        return past.size();
      case "keep":
        if (a[0] < 0 || a[0] > 2) return 0;
        kept[a[0]] = new Snap(picks, night);
        return 1;
      case "again":
        if (a[0] < 0 || a[0] > 2 || kept[a[0]] == null) return 0;
        back(kept[a[0]]);
        past.clear();
        return 1;
      case "told":
        if (a[0] < 0 || a[0] > 4 || a[1] < 0 || a[1] > MOST[a[0]] || told.size() == 12) return -1;
        told.add(new int[] {a[0], a[1]});
        return told.size();
      case "forget": {
        int were = told.size();
        told.clear();
        return were;
      }
      case "count": return count(a[0]);
      case "row": return a[0] >= 0 && a[0] < row.size() ? row.get(a[0]) : SeaClothModel.THROWS;
      default: return question(name, a);
    }
  }

  private long question(String name, int[] a) {
    switch (name) {
      case "next": return next();
      case "later": return later(a[0]);
      case "falls": return falls();
      case "lefts": return lefts(a[0]);
      case "outlasts": return outlasts();
      case "words": return words(a[0], a[1]);
      case "loose": {
        int set = bits(loose(threads(picks)));
        tell(Integer.bitCount(set & 63), Integer.bitCount(set >> 6));
        return set;
      }
      case "sheds": return sheds();
      case "hangs": return hangs();
      case "spares": return spares();
      case "mends": return mends();
      case "endures": return endures();
      case "looks": return looks();
      case "repeats":
        tell(period(1));
        return period(0);
      case "runs": {
        int[] p = runs(0);
        int[] e = runs(1);
        tell(p[1], e[0], e[1]);
        return p[0];
      }
      case "twins": return twins();
      case "game": return game();
      case "fits": {
        List<Integer> set = fits();
        tell(set.size());
        return bits(set);
      }
      case "asks": return asks();
      case "odds": return odds(a[0]);
      case "rests": return rests(a[0]);
      case "years": return years(a[0], a[1]);
      default: throw new IllegalArgumentException(name);
    }
  }

  private long sign(int v) {
    if (text.length() > 76) return -1;
    for (int k = 3; k >= 0; k--) {
      text += (char) (v >> 8 * k & 255);
    }
    return text.length();
  }

  private long reading(String name) {
    String s = text;
    text = "";
    try {
      switch (name) {
        case "cloth":
          picks = clothOf(s);
          night = 0;
          past.clear();
          Arrays.fill(kept, null);
          return picks.size();
        case "rule":
          RuleReader.check(s);
          rule = s;
          return 0;
        case "work": return work(s);
        case "rags": return rags(clothOf(s));
        case "differs": return differs(clothOf(s));
        default: return law(s);
      }
    } catch (Fault f) {
      return (name.equals("law") ? -10000 : -1) - f.at;
    }
  }

  private static List<String> clothOf(String s) {
    if (s.isEmpty() || s.charAt(0) < '1' || s.charAt(0) > '6') throw new Fault(0);
    int ends = s.charAt(0) - '0';
    List<String> found = new ArrayList<>();
    StringBuilder pick = new StringBuilder();
    for (int p = 1; p < s.length(); p++) {
      if ("#.".indexOf(s.charAt(p)) < 0 || found.size() == 6) throw new Fault(p);
      pick.append(s.charAt(p));
      if (pick.length() == ends) {
        found.add(pick.toString());
        pick.setLength(0);
      }
    }
    if (found.isEmpty() || pick.length() > 0) throw new Fault(s.length());
    return found;
  }

  private void tell(long... numbers) {
    row = new ArrayList<>();
    for (long n : numbers) row.add(n);
  }

  private static boolean has(List<String> c, int kind, int i) {
    return (kind == 0 || kind == 1) && i >= 0 && i < (kind == 0 ? c.size() : c.get(0).length());
  }

  private static int over(List<String> c, int p, int e) {
    return c.get(p).charAt(e) == '#' ? 1 : 0;
  }

  /** A thread as a text of 1 (it is over) and 0. */
  private static String along(List<String> c, int kind, int i) {
    StringBuilder s = new StringBuilder();
    int n = kind == 0 ? c.get(0).length() : c.size();
    for (int k = 0; k < n; k++) {
      s.append(kind == 0 ? over(c, i, k) : 1 - over(c, k, i));
    }
    return s.toString();
  }

  private static int cells(String along) {
    return Integer.parseInt(new StringBuilder(along).reverse().toString(), 2);
  }

  private static int changes(String along) {
    int n = 0;
    for (int k = 1; k < along.length(); k++) {
      if (along.charAt(k) != along.charAt(k - 1)) n++;
    }
    return n;
  }

  private static int ones(String along) {
    return along.replace("0", "").length();
  }

  private static boolean isLoose(String along) {
    return ones(along) == 0 || ones(along) == along.length();
  }

  private static int likes(List<String> c, int kind, int i) {
    int n = kind == 0 ? c.size() : c.get(0).length();
    int likes = 0;
    for (int k = 0; k < n; k++) {
      if (k != i && along(c, kind, k).equals(along(c, kind, i))) likes++;
    }
    return likes;
  }

  private static int pull(String rule, List<String> c, int night, int kind, int i) {
    String s = along(c, kind, i);
    int n = kind == 0 ? c.size() : c.get(0).length();
    int[] traits = {kind, i, ones(s), changes(s), s.length(), i == 0 || i == n - 1 ? 1 : 0, likes(c, kind, i), night % 7};
    return RuleReader.pull(rule, traits);
  }

  private long thread(int kind, int i, int what) {
    if (!has(picks, kind, i) || what < 0 || what > 4) return SeaClothModel.THROWS;
    String s = along(picks, kind, i);
    return new long[] {cells(s), changes(s), likes(picks, kind, i), isLoose(s) ? 1 : 0,
      100 + pull(rule, picks, night, kind, i)}[what];
  }

  private long sheet(int kind, int n, int f, int step) {
    if (kind < 0 || kind > 3 || n > 6) return -1;
    if (kind < 3 && n < 0) return -2;
    long sum = 0;
    for (int p = 0; p < picks.size(); p++) {
      int entry = kind == 3 || p >= n ? 0 : f + step * p;
      int v = kind == 0 ? (byte) entry : kind == 1 ? (short) entry : entry;
      StringBuilder s = new StringBuilder();
      for (int e = 0; e < ends(); e++) {
        int bit = v >> e & 1;
        s.append(bit == 1 ? '#' : '.');
        sum += bit << e;
      }
      picks.set(p, s.toString());
    }
    return kind == 3 ? -3 : sum;
  }

  private void note(Snap ahead) {
    past.addLast(ahead);
    if (past.size() > 15) past.removeFirst();
  }

  private void back(Snap s) {
    picks = new ArrayList<>(s.picks);
    night = s.night;
  }

  private int threadCount() {
    return picks.size() + ends();
  }

  private static int goes(String rule, List<String> c, int night) {
    int best = -1;
    int most = -1000;
    for (int kind = 0; kind < 2; kind++) {
      int n = kind == 0 ? c.size() : c.get(0).length();
      for (int i = 0; i < n; i++) {
        int v = pull(rule, c, night, kind, i);
        if (v > most) {
          most = v;
          best = n == 1 ? -2 : 6 * kind + i;
        }
      }
    }
    return best;
  }

  private static void remove(List<String> c, int t) {
    if (t < 0) return;
    if (t < 6) {
      c.remove(t);
    } else {
      c.replaceAll(p -> p.substring(0, t - 6) + p.substring(t - 5));
    }
  }

  private static void insert(List<String> c, int kind, int i, int v) {
    if (kind == 0) {
      StringBuilder s = new StringBuilder();
      for (int e = 0; e < c.get(0).length(); e++) s.append((v >> e & 1) == 1 ? '#' : '.');
      c.add(i, s.toString());
    } else {
      for (int p = 0; p < c.size(); p++) {
        c.set(p, c.get(p).substring(0, i) + ((v >> p & 1) == 1 ? '.' : '#') + c.get(p).substring(i));
      }
    }
  }

  private static void turn(List<String> c, int p, int e) {
    char[] s = c.get(p).toCharArray();
    s[e] = s[e] == '#' ? '.' : '#';
    c.set(p, new String(s));
  }

  private static int overs(List<String> c) {
    return String.join("", c).replace(".", "").length();
  }

  private long act(String name, int... a) {
    switch (name) {
      case "nights": {
        if (a[0] < 0 || a[0] > 60) return -1;
        int p = picks.size();
        int e = ends();
        for (int n = 0; n < a[0]; n++) {
          remove(picks, goes(rule, picks, night));
          night++;
        }
        tell(p - picks.size(), e - ends());
        return threadCount();
      }
      case "weaves": {
        if (a[0] < 0 || a[0] > 1) return -1;
        int n = a[0] == 0 ? picks.size() : ends();
        int cross = threadCount() - n;
        if (a[1] < 0 || a[1] > n || a[2] < 0 || a[2] >= 1 << cross) return -1;
        if (n == 6) return -2;
        insert(picks, a[0], a[1], a[2]);
        return n + 1;
      }
      case "draws": {
        if (!has(picks, a[0], a[1])) return -1;
        if ((a[0] == 0 ? picks.size() : ends()) == 1) return -2;
        int had = cells(along(picks, a[0], a[1]));
        remove(picks, 6 * a[0] + a[1]);
        return had;
      }
      case "flips":
        if (!has(picks, 0, a[0]) || !has(picks, 1, a[1])) return -1;
        turn(picks, a[0], a[1]);
        return overs(picks);
      default: {
        if (a[0] < 0 || a[0] > 1) return -1;
        int n = a[0] == 0 ? picks.size() : ends();
        List<String> ahead = new ArrayList<>();
        for (int i = 0; i < n; i++) ahead.add(along(picks, a[0], i));
        if (a[0] == 0) {
          Collections.reverse(picks);
        } else {
          picks.replaceAll(p -> new StringBuilder(p).reverse().toString());
        }
        int elsewhere = 0;
        for (int i = 0; i < n; i++) if (!ahead.get(i).equals(along(picks, a[0], i))) elsewhere++;
        return elsewhere;
      }
    }
  }

  private long work(String s) {
    String first = s.length() > 60 ? s.substring(0, 60) : s;
    int p = 0;
    List<String> acts = new ArrayList<>();
    while (p < first.length()) {
      String form = form(first.charAt(p));
      if (form.isEmpty()) throw new Fault(p);
      for (int k = 1; k < form.length(); k++) {
        if (p + k == first.length()) throw new Fault(first.length());
        char c = first.charAt(p + k);
        if (!(form.charAt(k) == 'b' ? c == '0' || c == '1' : c >= '0' && c <= '9')) throw new Fault(p + k);
      }
      acts.add(first.substring(p, p + form.length()));
      p += form.length();
    }
    if (s.length() > 60) throw new Fault(60);
    Snap ahead = new Snap(picks, night);
    int done = 0;
    int refused = 0;
    for (String a : acts) {
      if (actOf(a) < 0) {
        refused = 1;
        break;
      }
      done++;
    }
    if (done > 0) note(ahead);
    tell(refused, threadCount());
    return done;
  }

  private static String form(char c) {
    switch (c) {
      case 'n': return "n9";
      case 'w': return "wb999";
      case 'd': return "db9";
      case 't': return "t99";
      case 'm': return "mb";
      default: return "";
    }
  }

  private long actOf(String a) {
    int x = a.charAt(1) - '0';
    int y = a.length() > 2 ? a.charAt(2) - '0' : 0;
    switch (a.charAt(0)) {
      case 'n': return act("nights", x);
      case 'w': return act("weaves", x, y, Integer.parseInt(a.substring(3)));
      case 'd': return act("draws", x, y);
      case 't': return act("flips", x, y);
      default: return act("mirrors", x);
    }
  }

  private long next() {
    int t = goes(rule, picks, night);
    if (t < 0) return -2;
    tell(100 + pull(rule, picks, night, t / 6, t % 6));
    return t;
  }

  private long later(int n) {
    if (n < 0 || n > 60) return -1;
    List<String> c = new ArrayList<>(picks);
    for (int k = 0; k < n; k++) remove(c, goes(rule, c, night + k));
    tell(c.size(), c.get(0).length());
    for (int p = 0; p < c.size(); p++) row.add((long) cells(along(c, 0, p)));
    return c.size() + c.get(0).length();
  }

  private long falls() {
    List<String> c = new ArrayList<>(picks);
    for (int k = 0; k <= 60; k++) {
      if (!together(c, threads(c))) {
        tell(c.size() + c.get(0).length());
        return k;
      }
      remove(c, goes(rule, c, night + k));
    }
    return -2;
  }

  private static List<Integer> threads(List<String> c) {
    List<Integer> all = new ArrayList<>();
    for (int p = 0; p < c.size(); p++) all.add(p);
    for (int e = 0; e < c.get(0).length(); e++) all.add(6 + e);
    return all;
  }

  private static int bits(List<Integer> set) {
    int b = 0;
    for (int t : set) b |= 1 << t;
    return b;
  }

  private static List<Integer> those(List<Integer> all, int set) {
    List<Integer> some = new ArrayList<>();
    for (int t : all) if ((set >> t & 1) == 1) some.add(t);
    return some;
  }

  private static boolean above(List<String> c, int a, int b) {
    if (a < 6 == b < 6) return false;
    return a < 6 ? over(c, a, b - 6) == 1 : over(c, b, a - 6) == 0;
  }

  /** To which threads of a set one comes from each (Warshall). */
  private static int[] closure(List<String> c, List<Integer> set) {
    int[] to = new int[12];
    for (int a : set) {
      to[a] = 1 << a;
      for (int b : set) if (above(c, a, b)) to[a] |= 1 << b;
    }
    for (int via : set) for (int a : set) if ((to[a] >> via & 1) == 1) to[a] |= to[via];
    return to;
  }

  private static boolean together(List<String> c, List<Integer> set) {
    int all = bits(set);
    if (set.size() == 1) return true;
    if ((all & 63) == 0 || all >> 6 == 0) return false;
    int[] to = closure(c, set);
    for (int a : set) if (to[a] != all) return false;
    return true;
  }

  static boolean hangsTogether(String text) {
    List<String> c = clothOf(text);
    return together(c, threads(c));
  }

  private static List<String> left(List<String> c, int taken) {
    List<String> rest = new ArrayList<>();
    for (int p = 0; p < c.size(); p++) {
      if ((taken >> p & 1) == 1) continue;
      StringBuilder s = new StringBuilder();
      for (int e = 0; e < c.get(p).length(); e++) if ((taken >> 6 + e & 1) == 0) s.append(c.get(p).charAt(e));
      rest.add(s.toString());
    }
    return rest;
  }

  private long rags(List<String> rag) {
    int all = bits(threads(picks));
    TreeSet<Integer> sets = new TreeSet<>();
    for (int taken = 0; taken < 4096; taken++) {
      if ((taken & ~all) == 0 && left(picks, taken).equals(rag)) sets.add(taken);
    }
    tell();
    if (!sets.isEmpty()) tell(sets.first());
    return sets.size();
  }

  private long lefts(int n) {
    if (n < 0 || n > 4) return -1;
    int all = bits(threads(picks));
    int sets = 0;
    Set<List<String>> different = new HashSet<>();
    for (int taken = 0; taken < 4096; taken++) {
      if ((taken & ~all) != 0 || Integer.bitCount(taken) != n) continue;
      List<String> c = left(picks, taken);
      if (c.isEmpty() || c.get(0).isEmpty()) continue;
      sets++;
      different.add(c);
    }
    tell(sets);
    return different.size();
  }

  private static Set<String> losses(String word) {
    Set<String> s = new HashSet<>();
    for (int k = 0; k < word.length(); k++) s.add(word.substring(0, k) + word.substring(k + 1));
    return s;
  }

  private long outlasts() {
    int most = 0;
    int best = 0;
    for (int set = (1 << picks.size()) - 1; set > 0; set--) {
      boolean apart = true;
      Set<String> seen = new HashSet<>();
      for (int p = 0; p < picks.size(); p++) {
        if ((set >> p & 1) == 0) continue;
        for (String s : losses(picks.get(p))) apart &= seen.add(s);
      }
      if (apart && Integer.bitCount(set) >= most) {
        most = Integer.bitCount(set);
        best = set;
      }
    }
    tell(best);
    return most;
  }

  private long words(int n, int a) {
    if (n < 1 || n > 6 || a < 0 || a > n) return -1;
    List<Integer> found = new ArrayList<>();
    for (int w = 0; w < 1 << n; w++) {
      int sum = 0;
      for (int k = 0; k < n; k++) if ((w >> k & 1) == 1) sum += k + 1;
      if (sum % (n + 1) == a) found.add(w);
    }
    tell(found.get(0), found.get(found.size() - 1));
    return found.size();
  }

  private List<Integer> loose(List<Integer> set) {
    List<Integer> off = new ArrayList<>();
    for (int t : set) {
      int over = 0;
      int crossed = 0;
      for (int o : set) {
        if (o < 6 == t < 6) continue;
        crossed++;
        if (above(picks, t, o)) over++;
      }
      if (over == 0 || over == crossed) off.add(t);
    }
    return off;
  }

  private long sheds() {
    List<Integer> set = threads(picks);
    int times = 0;
    while ((bits(set) & 63) != 0 && bits(set) >> 6 != 0 && !loose(set).isEmpty()) {
      set.removeAll(loose(set));
      times++;
    }
    tell(bits(set), times);
    return set.size();
  }

  private long hangs() {
    List<Integer> all = threads(picks);
    int[] to = closure(picks, all);
    TreeSet<Integer> layers = new TreeSet<>();
    int top = 0;
    for (int a : all) {
      int layer = 0;
      for (int b : all) if ((to[a] >> b & 1) == 1 && (to[b] >> a & 1) == 1) layer |= 1 << b;
      layers.add(layer);
      if (to[a] == bits(all)) top = layer;
    }
    tell(layers.size(), top);
    return together(picks, all) ? 1 : 0;
  }

  private long spares() {
    List<Integer> all = threads(picks);
    int set = 0;
    for (int t : all) if (together(picks, those(all, bits(all) & ~(1 << t)))) set |= 1 << t;
    tell(Integer.bitCount(set));
    return set;
  }

  private long mends() {
    List<Integer> all = threads(picks);
    if (together(picks, all)) {
      tell();
      return 0;
    }
    List<int[]> ways = new ArrayList<>();
    for (int a = 0; a < 36; a++) {
      if (!has(picks, 0, a / 6) || !has(picks, 1, a % 6)) continue;
      List<String> c = new ArrayList<>(picks);
      turn(c, a / 6, a % 6);
      if (together(c, all)) ways.add(new int[] {a});
    }
    if (!ways.isEmpty()) {
      tell(ways.get(0)[0]);
      return 1;
    }
    for (int a = 0; a < 36; a++) {
      for (int b = a + 1; b < 36; b++) {
        if (!has(picks, 0, b / 6) || !has(picks, 1, a % 6) || !has(picks, 1, b % 6)) continue;
        List<String> c = new ArrayList<>(picks);
        turn(c, a / 6, a % 6);
        turn(c, b / 6, b % 6);
        if (together(c, all)) {
          tell(a, b);
          return 2;
        }
      }
    }
    return -2;
  }

  private int[] depth = new int[4096];
  private boolean[] hang = new boolean[4096];
  private String tabled = "";

  private int table() {
    List<Integer> all = threads(picks);
    if (!tabled.equals(shape())) {
      tabled = shape();
      for (int set = 0; set < 4096; set++) hang[set] = (set & ~bits(all)) == 0 && together(picks, those(all, set));
    }
    return bits(all);
  }

  private long endures() {
    int all = table();
    if (!hang[all]) {
      tell(0, 0);
      return 0;
    }
    int best = 0;
    for (int n = 1; best == 0; n++) {
      for (int taken = 4095; taken > 0; taken--) {
        if ((taken & ~all) == 0 && Integer.bitCount(taken) == n && !hang[all & ~taken]) best = taken;
      }
    }
    for (int set = 0; set < 4096; set++) {
      depth[set] = 0;
      for (int t = 0; t < 12; t++) {
        int rest = set & ~(1 << t);
        if (rest != set && hang[rest]) depth[set] = Math.max(depth[set], 1 + depth[rest]);
      }
    }
    tell(best, depth[all]);
    return Integer.bitCount(best);
  }

  private long differs(List<String> other) {
    if (other.size() != picks.size() || other.get(0).length() != ends()) return -100;
    List<long[]> ways = new ArrayList<>();
    for (int down = 0; down < picks.size(); down++) {
      for (int right = 0; right < ends(); right++) {
        List<String> gone = new ArrayList<>(other);
        Collections.rotate(gone, down);
        int by = ends() - right;
        gone.replaceAll(p -> p.substring(by) + p.substring(0, by));
        ways.add(new long[] {differences(gone), down, right});
      }
    }
    long[] best = Collections.min(ways, Arrays::compare);
    tell(best);
    return differences(other);
  }

  private int differences(List<String> other) {
    String a = String.join("", picks);
    String b = String.join("", other);
    int n = 0;
    for (int k = 0; k < a.length(); k++) if (a.charAt(k) != b.charAt(k)) n++;
    return n;
  }

  private long looks() {
    List<String> down = new ArrayList<>(picks);
    Collections.reverse(down);
    List<String> side = new ArrayList<>(picks);
    side.replaceAll(p -> new StringBuilder(p).reverse().toString());
    List<String> both = new ArrayList<>(side);
    Collections.reverse(both);
    int across = -1;
    if (picks.size() == ends()) {
      across = 0;
      for (int i = 0; i < ends(); i++) {
        for (int k = 0; k < ends(); k++) if (over(picks, i, k) != over(picks, k, i)) across++;
      }
    }
    tell(differences(down), differences(side), differences(both), across);
    return (down.equals(picks) ? 1 : 0) + (side.equals(picks) ? 2 : 0) + (both.equals(picks) ? 4 : 0)
        + (across == 0 ? 8 : 0);
  }

  private int period(int kind) {
    int n = kind == 0 ? picks.size() : ends();
    for (int by = 1; ; by++) {
      boolean good = true;
      for (int i = 0; i + by < n; i++) good &= along(picks, kind, i).equals(along(picks, kind, i + by));
      if (good) return by;
    }
  }

  private int[] runs(int kind) {
    int n = kind == 0 ? picks.size() : ends();
    int count = 0;
    int longest = 0;
    for (int i = 0; i < n; i++) {
      for (String run : along(picks, kind, i).replace("01", "0 1").replace("10", "1 0").split(" ")) {
        count++;
        longest = Math.max(longest, run.length());
      }
    }
    return new int[] {count, longest};
  }

  private long twins() {
    tell();
    int pairs = 0;
    for (int a : threads(picks)) {
      for (int b : threads(picks)) {
        if (a >= b || a / 6 != b / 6 || !along(picks, a / 6, a % 6).equals(along(picks, b / 6, b % 6))) continue;
        if (pairs++ == 0) tell(a, b);
      }
    }
    return pairs;
  }

  private int[] won = new int[4096];

  /** 1 if he who is to take wins from a set that hangs together. */
  private boolean wins(int set) {
    if (won[set] == 0) {
      won[set] = 1;
      for (int t = 0; t < 12; t++) {
        int rest = set & ~(1 << t);
        if (rest != set && hang[rest] && !wins(rest)) won[set] = 2;
      }
    }
    return won[set] == 2;
  }

  private long game() {
    int all = table();
    tell();
    Arrays.fill(won, 0);
    if (!hang[all] || !wins(all)) return 0;
    for (int t = 11; t >= 0; t--) {
      int rest = all & ~(1 << t);
      if (rest != all && hang[rest] && !wins(rest)) tell(t);
    }
    return 1;
  }

  private boolean so(int t, int what, int v) {
    String s = along(picks, t / 6, t % 6);
    switch (what) {
      case 0: return t / 6 == v;
      case 1: return ones(s) >= v;
      case 2: return changes(s) >= v;
      case 3: return (isLoose(s) ? 1 : 0) == v;
      default: return t % 6 <= v;
    }
  }

  private List<Integer> fits() {
    List<Integer> set = threads(picks);
    for (int[] tale : told) set.removeIf(t -> !so(t, tale[0], tale[1]));
    return set;
  }

  private long asks() {
    List<Integer> set = fits();
    if (set.isEmpty()) return -2;
    int best = -1;
    int fewest = 100;
    for (int what = 4; what >= 0; what--) {
      for (int v = MOST[what]; v >= 0; v--) {
        int yes = 0;
        for (int t : set) if (so(t, what, v)) yes++;
        int most = Math.max(yes, set.size() - yes);
        if (most <= fewest) {
          fewest = most;
          best = 10 * what + v;
        }
      }
    }
    tell(fewest);
    return best;
  }

  private long odds(int p) {
    if (p < 0 || p > 10) return -1;
    int all = table();
    java.math.BigInteger upper = java.math.BigInteger.ZERO;
    int n = Integer.bitCount(all);
    for (int set = 0; set < 4096; set++) {
      if ((set & ~all) != 0 || !hang[set]) continue;
      int stay = Integer.bitCount(set);
      upper = upper.add(java.math.BigInteger.valueOf(10 - p).pow(stay)
          .multiply(java.math.BigInteger.valueOf(p).pow(n - stay)));
    }
    java.math.BigInteger lower = java.math.BigInteger.TEN.pow(n);
    java.math.BigInteger g = upper.gcd(lower);
    tell(upper.divide(g).longValueExact(), lower.divide(g).longValueExact());
    return 0;
  }

  private long law(String s) {
    RuleReader.check(s);
    List<String> a = new ArrayList<>(picks);
    List<String> b = new ArrayList<>(picks);
    int others = 0;
    for (int k = 0; k < 10; k++) {
      int x = goes(s, a, night + k);
      int y = goes(rule, b, night + k);
      if (x != y) others++;
      remove(a, x);
      remove(b, y);
    }
    tell(a.size() + a.get(0).length(), b.size() + b.get(0).length());
    return others;
  }

  private static int[] shares(int x, int y, int v) {
    if (x + y <= v) return new int[] {x, y};
    int less = Math.min(Math.min(x, y), v);
    if (x == y) return new int[] {v / 2 - 1, v / 2 - 1};
    return x < y ? new int[] {less - 1, v - less - 1} : new int[] {v - less - 1, less - 1};
  }

  private long rests(int v) {
    if (v < 0 || v > 20) return -1;
    tell();
    int pairs = 0;
    for (int x = 0; x < 10; x++) {
      for (int y = 0; y < 10; y++) {
        boolean rest = true;
        for (int z = 0; z < 10; z++) {
          rest &= shares(z, y, v)[0] <= shares(x, y, v)[0] && shares(x, z, v)[1] <= shares(x, y, v)[1];
        }
        if (rest && pairs++ == 0) tell(x, y);
      }
    }
    return pairs;
  }

  private int draw(int n) {
    chance = chance * 1103515245 + 12345;
    return (int) ((chance & 0xffffffffL) / 65536 % n);
  }

  private long years(int seed, int n) {
    if (n < 1 || n > 60) return -1;
    chance = seed;
    List<String> c = new ArrayList<>(picks);
    int when = night;
    for (int k = 0; k < n; k++) {
      int what = draw(4);
      if (what < 2) {
        remove(c, goes(rule, c, when++));
      } else if (what == 2) {
        int p = draw(c.size());
        turn(c, p, draw(c.get(0).length()));
      } else {
        int kind = draw(2);
        int size = kind == 0 ? c.size() : c.get(0).length();
        int i = draw(size + 1);
        int v = draw(64);
        if (size < 6) insert(c, kind, i, v);
      }
    }
    tell(overs(c), together(c, threads(c)) ? 1 : 0);
    return c.size() + c.get(0).length();
  }

  private long count(int what) {
    switch (what) {
      case 0: return picks.size();
      case 1: return ends();
      case 2: return night;
      case 3: return overs(picks);
      case 4: return told.size();
      case 5: return past.size();
      case 6: return row.size();
      case 7: return text.length();
      default: return -100;
    }
  }
}
