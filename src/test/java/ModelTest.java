import java.util.ArrayList;
import java.util.Arrays;
import java.util.HashSet;
import java.util.LinkedList;
import java.util.List;
import java.util.Random;
import java.util.Set;
import java.util.TreeSet;

/**
 * Long runs by lot, each call's answer compared with that of a second program: the document
 * written down once more as slowly and plainly as it goes, sharing nothing with the class.
 */
public final class ModelTest {
  private static int wrong = 0;
  private static int asked = 0;

  public static void main(String[] args) {
    int runs = args.length > 0 ? Integer.parseInt(args[0]) : 500;
    for (int run = 0; run < runs; run++) {
      new Run(run).play();
    }
    System.out.println(asked + " calls of " + runs + " runs compared, " + wrong + " not as the model's");
    if (wrong != 0) {
      System.exit(1);
    }
  }

  // ---------------------------------------------------------------- the runs

  private static final class Run {
    final int number;
    final Random lot;
    final BuriedBySevens real = new BuriedBySevens();
    final Model model = new Model();
    final List<String> told = new ArrayList<>();
    final boolean small;
    final boolean blunt;
    int calls = 0;
    boolean lost = false;

    Run(int number) {
      this.number = number;
      this.lot = new Random(77L * number + 5);
      this.small = lot.nextInt(3) == 0;
      this.blunt = lot.nextBoolean();
    }

    void play() {
      int start = lot.nextInt(7);
      for (int i = 0; i < start; i++) {
        due(real.comes(k(), f(), mk()), model.comes(lastA, lastB, lastC), "comes");
      }
      start = lot.nextInt(6);
      for (int i = 0; i < start; i++) {
        due(real.joins(tongue(), f(), m9()), model.joins(lastA, lastB, lastC), "joins");
      }
      while (calls < 500 && !lost) {
        step();
      }
    }

    int lastA;
    int lastB;
    int lastC;

    int k() { lastA = lot.nextInt(6); return lastA; }
    int f() { lastB = blunt ? lot.nextInt(10) : lot.nextInt(3); return lastB; }
    int mk() { lastC = small ? pickMarks() : lot.nextInt(10000); return lastC; }
    int tongue() { lastA = 1 + lot.nextInt(15); return lastA; }
    int m9() { lastC = lot.nextInt(10); return lastC; }
    int pickMarks() {
      int v = 0;
      for (int i = 0; i < 4; i++) {
        v = v * 10 + lot.nextInt(3);
      }
      return v;
    }

    void due(long got, long want, String call) {
      asked++;
      calls++;
      told.add(call + " = " + want);
      if (got != want && !lost) {
        wrong++;
        lost = true;
        System.out.println("run " + number + ", call " + calls + ": " + call + " answered " + got + ", the model says " + want);
        System.out.println("  model: " + model.state());
      }
    }

    int near(int n) {
      // mostly one of 0 .. n - 1, at times just outside
      int r = lot.nextInt(16);
      if (r == 0) {
        return -1 - lot.nextInt(2);
      }
      if (r == 1) {
        return n + lot.nextInt(2);
      }
      return n > 0 ? lot.nextInt(n) : 0;
    }

    int wide(int least, int most) {
      int r = lot.nextInt(40);
      if (r == 0) {
        return least - 1;
      }
      if (r == 1) {
        return most + 1;
      }
      if (r == 2) {
        return lot.nextBoolean() ? Integer.MIN_VALUE : Integer.MAX_VALUE;
      }
      if (r < 6) {
        return least;
      }
      if (r < 9) {
        return most;
      }
      return least + lot.nextInt(most - least + 1);
    }

    int what() { return lot.nextInt(20) == 0 ? lot.nextInt(5) - 2 : lot.nextInt(2); }
    int cask() { return near(model.casks.size()); }
    int taster() { return near(model.tasters.size()); }
    int mark() { return near(4); }

    void step() {
      int a;
      int b;
      int c;
      int d;
      switch (lot.nextInt(62)) {
        case 0: letters(); break;
        case 1: a = wide(0, 255); due(real.feed(a), model.feed(a), "feed(" + a + ")"); break;
        case 2: due(real.cellar(), model.cellar(), "cellar()"); break;
        case 3: a = cask(); b = lot.nextInt(9) - 1; due(real.cask(a, b), model.cask(a, b), "cask(" + a + ", " + b + ")"); break;
        case 4: a = taster(); b = lot.nextInt(5) - 1; due(real.taster(a, b), model.taster(a, b), "taster(" + a + ", " + b + ")"); break;
        case 5: a = wide(0, 5); b = wide(0, 9); c = small ? pickMarks() : wide(0, 9999); due(real.comes(a, b, c), model.comes(a, b, c), "comes(" + a + ", " + b + ", " + c + ")"); break;
        case 6: a = wide(1, 15); b = wide(0, 9); c = wide(0, 9); due(real.joins(a, b, c), model.joins(a, b, c), "joins(" + a + ", " + b + ", " + c + ")"); break;
        case 7: case 57: case 58: case 59: a = cask(); b = small ? wide(0, 2) : wide(0, 9); due(real.share(a, b), model.share(a, b), "share(" + a + ", " + b + ")"); break;
        case 8: case 60: a = cask(); b = mark(); c = wide(0, small ? 3 : 9); due(real.mark(a, b, c), model.mark(a, b, c), "mark(" + a + ", " + b + ", " + c + ")"); break;
        case 9: case 61: a = cask(); b = wide(0, 5); c = wide(0, 9); due(real.kind(a, b, c), model.kind(a, b, c), "kind(" + a + ", " + b + ", " + c + ")"); break;
        case 10: due(real.back(), model.back(), "back()"); break;
        case 11: a = lot.nextInt(3) == 0 ? -1 : cask(); b = mark(); due(real.taste(a, b), model.taste(a, b), "taste(" + a + ", " + b + ")"); break;
        case 12: a = taster(); b = lot.nextInt(3) == 0 ? -1 : cask(); c = mark(); due(real.tells(a, b, c), model.tells(a, b, c), "tells(" + a + ", " + b + ", " + c + ")"); break;
        case 13: a = taster(); b = cask(); c = cask(); due(real.apart(a, b, c), model.apart(a, b, c), "apart(" + a + ", " + b + ", " + c + ")"); break;
        case 14: a = what(); due(real.alike(a), model.alike(a), "alike(" + a + ")"); break;
        case 15: a = lot.nextInt(10) - 2; due(real.fits(a), model.fits(a), "fits(" + a + ")"); break;
        case 16: a = cask(); b = what(); due(real.in(a, b), model.in(a, b), "in(" + a + ", " + b + ")"); break;
        case 17: a = what(); due(real.sure(a), model.sure(a), "sure(" + a + ")"); break;
        case 18: a = what(); due(real.tellsMost(a), model.tellsMost(a), "tellsMost(" + a + ")"); break;
        case 19: due(real.drops(), model.drops(), "drops()"); break;
        case 20: a = taster(); b = cask(); due(real.claim(a, b), model.claim(a, b), "claim(" + a + ", " + b + ")"); break;
        case 21: due(real.team(), model.team(), "team()"); break;
        case 22: a = taster(); b = lot.nextInt(10) - 2; due(real.order(a, b), model.order(a, b), "order(" + a + ", " + b + ")"); break;
        case 23: a = what(); due(real.gone(a), model.gone(a), "gone(" + a + ")"); break;
        case 24: due(real.emptyOnes(), model.emptyOnes(), "emptyOnes()"); break;
        case 25: a = cask(); b = wide(1, 99); c = wide(0, 99); d = what(); due(real.guess(a, b, c, d), model.guess(a, b, c, d), "guess(" + a + ", " + b + ", " + c + ", " + d + ")"); break;
        case 26: a = cask(); b = what(); due(real.adds(a, b), model.adds(a, b), "adds(" + a + ", " + b + ")"); break;
        case 27: a = wide(2, 20); b = what(); due(real.onions(a, b), model.onions(a, b), "onions(" + a + ", " + b + ")"); break;
        case 28: rowOfShares(); a = what(); due(real.two(a), model.two(a), "two(" + a + ")"); break;
        case 29: rowOfTastes(); a = taster(); b = what(); due(real.impostor(a, b), model.impostor(a, b), "impostor(" + a + ", " + b + ")"); break;
        case 30: due(real.nearest(), model.nearest(), "nearest()"); break;
        case 31: due(real.strongest(), model.strongest(), "strongest()"); break;
        case 32: due(real.sharper(), model.sharper(), "sharper()"); break;
        case 33: due(real.more(), model.more(), "more()"); break;
        case 34: a = mark(); due(real.range(a), model.range(a), "range(" + a + ")"); break;
        case 35: a = mark(); b = lot.nextBoolean() ? wide(0, 99) : lot.nextInt(30); due(real.pour(a, b), model.pour(a, b), "pour(" + a + ", " + b + ")"); break;
        case 36: due(real.like(), model.like(), "like()"); break;
        case 37: a = what(); due(real.duo(a), model.duo(a), "duo(" + a + ")"); break;
        case 38: a = what(); due(real.hidden(a), model.hidden(a), "hidden(" + a + ")"); break;
        case 39: a = taster(); due(real.diluted(a), model.diluted(a), "diluted(" + a + ")"); break;
        case 40: a = taster(); due(real.kinds(a), model.kinds(a), "kinds(" + a + ")"); break;
        case 41: a = cask(); due(real.substitutes(a), model.substitutes(a), "substitutes(" + a + ")"); break;
        case 42: a = taster(); due(real.exact(a), model.exact(a), "exact(" + a + ")"); break;
        case 43: a = taster(); b = cask(); c = cask(); due(real.bluntest(a, b, c), model.bluntest(a, b, c), "bluntest(" + a + ", " + b + ", " + c + ")"); break;
        case 44: rowOfTastes(); a = lot.nextInt(10) - 2; due(real.closest(a), model.closest(a), "closest(" + a + ")"); break;
        case 45: a = lot.nextInt(10) - 1; due(real.rank(a), model.rank(a), "rank(" + a + ")"); break;
        case 46: due(real.alikeGlasses(), model.alikeGlasses(), "alikeGlasses()"); break;
        case 47: a = taster(); b = what(); due(real.blind(a, b), model.blind(a, b), "blind(" + a + ", " + b + ")"); break;
        case 48: a = what(); due(real.loner(a), model.loner(a), "loner(" + a + ")"); break;
        case 49: a = cask(); due(real.twin(a), model.twin(a), "twin(" + a + ")"); break;
        case 50: a = wide(0, 99); due(real.row(a), model.row(a), "row(" + a + ")"); break;
        case 51: judged(); a = mark(); due(real.judge(a), model.judge(a), "judge(" + a + ")"); break;
        case 52: due(real.clear(), model.clear(), "clear()"); break;
        case 53: a = wide(1, 20); b = lot.nextInt(); c = what(); if (asked % 3 == 0) { due(real.lots(a, b, c), model.lots(a, b, c), "lots(" + a + ", " + b + ", " + c + ")"); } break;
        case 54: if (lot.nextInt(4) == 0) { due(real.image(), model.image(), "image()"); } break;
        case 55: if (lot.nextInt(4) == 0) { due(real.restore(), model.restore(), "restore()"); } break;
        default: a = lot.nextInt(19) - 1; due(real.count(a), model.count(a), "count(" + a + ")"); break;
      }
    }

    void say(String text) {
      for (int i = 0; i < text.length(); i++) {
        int c = text.charAt(i);
        due(real.feed(c), model.feed(c), "feed('" + text.charAt(i) + "')");
      }
    }

    String digit() { return String.valueOf(lot.nextInt(10)); }

    void letters() {
      StringBuilder b = new StringBuilder();
      int n = 1 + lot.nextInt(3);
      for (int i = 0; i < n; i++) {
        switch (lot.nextInt(4)) {
          case 0: b.append("c").append(lot.nextInt(7)).append(digit()).append(digit()).append(digit()).append(digit()).append(digit()).append(";"); break;
          case 1: b.append("s").append(lot.nextInt(8)).append(digit()).append(";"); break;
          case 2: b.append("t").append(lot.nextInt(2)).append(lot.nextInt(7)).append(digit()).append(digit()).append(";"); break;
          default: b.append("m").append(lot.nextInt(8)).append(lot.nextInt(5)).append(digit()).append(";"); break;
        }
      }
      int r = lot.nextInt(8);
      if (r == 0) {
        b.setCharAt(lot.nextInt(b.length()), "cstm;059 x/:".charAt(lot.nextInt(12)));
      } else if (r == 1) {
        b.deleteCharAt(lot.nextInt(b.length()));
      }
      say(b.toString());
      due(real.cellar(), model.cellar(), "cellar()");
    }

    void rowAnew(int n, int most) {
      due(real.clear(), model.clear(), "clear()");
      for (int i = 0; i < n; i++) {
        int v = lot.nextInt(most + 1);
        due(real.row(v), model.row(v), "row(" + v + ")");
      }
    }

    void rowOfShares() {
      if (lot.nextInt(8) > 0) {
        rowAnew(model.casks.size() + (lot.nextInt(8) == 0 ? 1 : 0), lot.nextInt(8) == 0 ? 10 : small ? 2 : 9);
      }
    }

    void rowOfTastes() {
      int r = lot.nextInt(8);
      if (r > 3) {
        rowAnew(4, lot.nextBoolean() ? 30 : 5);
      } else if (r > 0) {
        due(real.clear(), model.clear(), "clear()");
        for (int m = 0; m < 4; m++) {
          int v = lot.nextInt(5) == 0 ? 0 : model.tasters.isEmpty() ? model.glass()[m] : Math.max(0, model.tells(0, -1, m));
          due(real.row(v), model.row(v), "row(" + v + ")");
        }
      }
    }

    void judged() {
      if (lot.nextInt(4) > 0) {
        int m = lot.nextInt(4);
        due(real.clear(), model.clear(), "clear()");
        int n = lot.nextInt(model.casks.size() + 3);
        for (int i = 0; i < n; i++) {
          int v = i > model.casks.size() || lot.nextInt(12) == 0 ? lot.nextInt(40) : model.taste(i - 1, m);
          due(real.row(v), model.row(v), "row(" + v + ")");
        }
        due(real.judge(m), model.judge(m), "judge(" + m + ")");
      }
    }
  }

  // ---------------------------------------------------------------- the document once more

  private record Cask(int kind, int figure, List<Integer> marks, int share) {
    Cask share(int v) { return new Cask(kind, figure, marks, v); }
    Cask kind(int k, int f) { return new Cask(k, f, marks, share); }
    Cask mark(int m, int v) {
      List<Integer> other = new ArrayList<>(marks);
      other.set(m, v);
      return new Cask(kind, figure, other, share);
    }
  }

  private record Taster(Set<Integer> tongue, int blunt, int memory) {
    int bits() { int b = 0; for (int m : tongue) { b += 1 << m; } return b; }
    int tell(int taste) { int k = 0; while ((k + 1) * (blunt + 1) <= taste) { k++; } return k * (blunt + 1); }
    List<Integer> telling(int[] tastes) {
      List<Integer> all = new ArrayList<>();
      for (int m : tongue) {
        all.add(tell(tastes[m]));
      }
      return all;
    }
    boolean apart(int[] a, int[] b) { return !telling(a).equals(telling(b)); }
  }

  private static Set<Integer> tongueOf(int bits) {
    Set<Integer> all = new TreeSet<>();
    for (int m = 0; m < 4; m++) {
      if ((bits & (1 << m)) != 0) {
        all.add(m);
      }
    }
    return all;
  }

  private static final class Model {
    List<Cask> casks = new ArrayList<>();
    List<Taster> tasters = new ArrayList<>();
    List<Cask> imageCasks = null;
    List<Taster> imageTasters = null;
    final LinkedList<List<Cask>> changes = new LinkedList<>();
    StringBuilder letters = new StringBuilder();
    List<Integer> row = new ArrayList<>();
    final int[] refused = new int[7];

    String state() { return casks + " " + tasters + " row " + row + " letters " + letters; }

    int no(int number) { refused[-number]++; return number; }
    long noLong(int number) { return 4000000000000000000L - no(number); }
    boolean isCask(int c) { return c >= 0 && c < casks.size(); }
    boolean isTaster(int t) { return t >= 0 && t < tasters.size(); }
    boolean isMark(int m) { return m >= 0 && m <= 3; }
    boolean isWhat(int w) { return w == 0 || w == 1; }

    int feed(int letter) {
      if (letter < 0) { return no(-4); }
      if (letter > 255 || letters.length() == 96) { return no(-6); }
      letters.append((char) letter);
      return letters.length();
    }

    static final String GRAMMAR = "c[0-9]{6};|s[0-9]{2};|t[0-9]{4};|m[0-9]{3};";

    /** Whether some text of statements begins with this one. */
    static boolean canGoOn(String text) {
      String rest = text.replaceFirst("^(" + GRAMMAR + ")*", "");
      return rest.isEmpty() || rest.matches("c[0-9]{0,6}|s[0-9]{0,2}|t[0-9]{0,4}|m[0-9]{0,3}");
    }

    int cellar() {
      String text = letters.toString();
      letters = new StringBuilder();
      for (int i = 0; i < text.length(); i++) {
        if (!canGoOn(text.substring(0, i + 1))) { return -1000 - i; }
      }
      if (!text.matches("(" + GRAMMAR + ")+")) { return -1000 - text.length(); }
      List<Cask> c = new ArrayList<>(casks);
      List<Taster> t = new ArrayList<>(tasters);
      int place = 0;
      int n = 0;
      for (String s : text.split(";")) {
        if (!statement(s, c, t)) { return -2000 - place; }
        place += s.length() + 1;
        n++;
      }
      casks = c;
      tasters = t;
      changes.clear();
      return n;
    }

    static boolean statement(String s, List<Cask> c, List<Taster> t) {
      int[] d = new int[s.length()];
      for (int i = 1; i < s.length(); i++) { d[i] = s.charAt(i) - '0'; }
      switch (s.charAt(0)) {
        case 'c':
          if (d[1] > 5 || c.size() == 7) { return false; }
          c.add(new Cask(d[1], d[2], List.of(d[3], d[4], d[5], d[6]), 0));
          return true;
        case 's':
          if (d[1] >= c.size()) { return false; }
          c.set(d[1], c.get(d[1]).share(d[2]));
          return true;
        case 't':
          int bits = d[1] * 10 + d[2];
          if (bits < 1 || bits > 15 || t.size() == 6) { return false; }
          t.add(new Taster(tongueOf(bits), d[3], d[4]));
          return true;
        default:
          if (d[1] >= c.size() || d[2] > 3) { return false; }
          c.set(d[1], c.get(d[1]).mark(d[2], d[3]));
          return true;
      }
    }

    int cask(int c, int what) {
      if (!isCask(c)) { return no(-1); }
      if (what < 0 || what > 6) { return no(-2); }
      Cask k = casks.get(c);
      return new int[] {k.kind(), k.figure(), k.marks().get(0), k.marks().get(1), k.marks().get(2), k.marks().get(3), k.share()}[what];
    }

    int taster(int t, int what) {
      if (!isTaster(t)) { return no(-1); }
      if (what < 0 || what > 2) { return no(-2); }
      Taster k = tasters.get(t);
      return new int[] {k.bits(), k.blunt(), k.memory()}[what];
    }

    int comes(int kind, int figure, int marks) {
      if (kind < 0 || kind > 5) { return no(-2); }
      if (figure < 0 || marks < 0) { return no(-4); }
      if (figure > 9 || marks > 9999 || casks.size() == 7) { return no(-6); }
      casks.add(new Cask(kind, figure, List.of(marks / 1000, marks / 100 % 10, marks / 10 % 10, marks % 10), 0));
      changes.clear();
      return casks.size() - 1;
    }

    int joins(int marks, int blunt, int memory) {
      if (marks < 1 || blunt < 0 || memory < 0) { return no(-4); }
      if (marks > 15 || blunt > 9 || memory > 9 || tasters.size() == 6) { return no(-6); }
      tasters.add(new Taster(tongueOf(marks), blunt, memory));
      changes.clear();
      return tasters.size() - 1;
    }

    void change(int c, Cask becomes) {
      changes.addLast(new ArrayList<>(casks));
      if (changes.size() > 8) { changes.removeFirst(); }
      casks.set(c, becomes);
    }

    int share(int c, int v) {
      if (!isCask(c)) { return no(-1); }
      if (v < 0) { return no(-4); }
      if (v > 9) { return no(-6); }
      int was = casks.get(c).share();
      change(c, casks.get(c).share(v));
      return was;
    }

    int mark(int c, int m, int v) {
      if (!isCask(c) || !isMark(m)) { return no(-1); }
      if (v < 0) { return no(-4); }
      if (v > 9) { return no(-6); }
      int was = casks.get(c).marks().get(m);
      change(c, casks.get(c).mark(m, v));
      return was;
    }

    int kind(int c, int k, int f) {
      if (!isCask(c)) { return no(-1); }
      if (k < 0 || k > 5) { return no(-2); }
      if (f < 0) { return no(-4); }
      if (f > 9) { return no(-6); }
      int was = 10 * casks.get(c).kind() + casks.get(c).figure();
      change(c, casks.get(c).kind(k, f));
      return was;
    }

    int back() {
      if (changes.isEmpty()) { return no(-3); }
      casks = changes.removeLast();
      return changes.size();
    }

    static int of(List<Cask> all, int c, int m) {
      Cask k = all.get(c);
      int cask = 3 * k.marks().get(m);
      int oak = cask + k.figure();
      if (k.kind() == 0) { return cask; }
      if (k.kind() == 1) { return oak; }
      if (k.kind() == 2) { return cask / 2; }
      if (k.kind() == 3) { return 2 * oak; }
      if (k.kind() == 4) { return 0; }
      return c == 0 ? cask : (cask + of(all, c - 1, m)) / 2;
    }

    static int[] glassOf(List<Cask> all, int[] shares, int water) {
      int[] taste = new int[4];
      for (int m = 0; m < 4; m++) {
        int sum = 0;
        int parts = water;
        for (int c = 0; c < all.size(); c++) {
          sum += shares[c] * of(all, c, m);
          parts += shares[c];
        }
        taste[m] = parts == 0 ? 0 : sum / parts;
      }
      return taste;
    }

    int[] shares() { return casks.stream().mapToInt(Cask::share).toArray(); }
    int[] glass() { return glassOf(casks, shares(), 0); }
    int[] tastes(int c) { return new int[] {of(casks, c, 0), of(casks, c, 1), of(casks, c, 2), of(casks, c, 3)}; }
    int[] at(int c) { return c == -1 ? glass() : tastes(c); }
    int sum(int c) { return Arrays.stream(tastes(c)).sum(); }

    int taste(int c, int m) {
      if (c != -1 && !isCask(c) || !isMark(m)) { return no(-1); }
      return at(c)[m];
    }

    int tells(int t, int c, int m) {
      if (!isTaster(t) || c != -1 && !isCask(c) || !isMark(m)) { return no(-1); }
      Taster k = tasters.get(t);
      return k.tongue().contains(m) ? k.tell(at(c)[m]) : -9;
    }

    int apart(int t, int a, int b) {
      if (!isTaster(t) || !isCask(a) || !isCask(b) || a == b) { return no(-1); }
      return tasters.get(t).apart(tastes(a), tastes(b)) ? 1 : 0;
    }

    Set<Integer> twos(int bits) {
      Set<Integer> all = new TreeSet<>();
      for (int a = 0; a < casks.size(); a++) {
        for (int b = a + 1; b < casks.size(); b++) {
          for (int t = 0; t < tasters.size(); t++) {
            if ((bits & (1 << t)) != 0 && tasters.get(t).apart(tastes(a), tastes(b))) { all.add(10 * a + b); }
          }
        }
      }
      return all;
    }

    Set<Integer> others(Set<Integer> some) {
      Set<Integer> all = new TreeSet<>();
      for (int a = 0; a < casks.size(); a++) {
        for (int b = a + 1; b < casks.size(); b++) { all.add(10 * a + b); }
      }
      all.removeAll(some);
      return all;
    }

    int manyOrFirst(Set<Integer> some, int what) {
      return what == 0 ? some.size() : some.isEmpty() ? -9 : some.iterator().next();
    }

    int everybody() { return (1 << tasters.size()) - 1; }

    int alike(int what) {
      if (!isWhat(what)) { return no(-2); }
      return manyOrFirst(others(twos(everybody())), what);
    }

    List<int[]> allGlasses = null;
    List<int[]> allTastes = null;
    List<Cask> ofThese = null;

    void mixAll() {
      List<Cask> key = new ArrayList<>();
      for (Cask c : casks) { key.add(c.share(0)); }
      if (key.equals(ofThese)) { return; }
      ofThese = key;
      allGlasses = new ArrayList<>();
      allTastes = new ArrayList<>();
      grow(new int[casks.size()], 0);
      for (int[] g : allGlasses) { allTastes.add(glassOf(casks, g, 0)); }
    }

    void grow(int[] shares, int c) {
      if (c == shares.length) {
        if (Arrays.stream(shares).sum() > 0) { allGlasses.add(shares.clone()); }
        return;
      }
      for (int v = 0; v <= 2; v++) {
        shares[c] = v;
        grow(shares, c + 1);
      }
    }

    List<int[]> fitting(int bits, int[] aim) {
      return fitting(bits, aim, tasters);
    }

    List<int[]> fitting(int bits, int[] aim, List<Taster> these) {
      mixAll();
      List<int[]> all = new ArrayList<>();
      for (int i = 0; i < allGlasses.size(); i++) {
        boolean same = true;
        for (int t = 0; t < these.size() && same; t++) {
          Taster k = these.get(t);
          if ((bits & (1 << t)) != 0) {
            for (int m : k.tongue()) {
              int step = k.blunt() + 1;
              same = same && allTastes.get(i)[m] / step == aim[m] / step;
            }
          }
        }
        if (same) { all.add(allGlasses.get(i)); }
      }
      return all;
    }

    List<int[]> fitting() { return fitting(everybody(), glass()); }

    int fits(int i) {
      if (i < -1) { return no(-4); }
      List<int[]> all = fitting();
      if (i == -1) { return all.size(); }
      return all.isEmpty() || i >= casks.size() ? -9 : all.get(0)[i];
    }

    static int with(List<int[]> all, int c) {
      int n = 0;
      for (int[] g : all) { n += g[c] > 0 ? 1 : 0; }
      return n;
    }

    static long part(long above, long below, int part) {
      if (above == 0 || below == 0) { return part; }
      long x = java.math.BigInteger.valueOf(above).gcd(java.math.BigInteger.valueOf(below)).longValue();
      return part == 0 ? above / x : below / x;
    }

    long in(int c, int part) {
      if (!isCask(c)) { return noLong(-1); }
      if (!isWhat(part)) { return noLong(-2); }
      return part(with(fitting(), c), fitting().size(), part);
    }

    int sure(int what) {
      if (!isWhat(what)) { return no(-2); }
      List<int[]> all = fitting();
      int bits = 0;
      for (int c = 0; c < casks.size(); c++) {
        int n = with(all, c);
        if (!all.isEmpty() && n == (what == 0 ? all.size() : 0)) { bits += 1 << c; }
      }
      return bits;
    }

    int tellsMost(int what) {
      if (!isWhat(what)) { return no(-2); }
      int who = -9;
      int least = -9;
      for (int t = tasters.size() - 1; t >= 0; t--) {
        int n = fitting(1 << t, glass()).size();
        if (who == -9 || n <= least) { who = t; least = n; }
      }
      return what == 0 ? who : least;
    }

    int drops() {
      int best = -1;
      int due = fitting().size();
      for (int s = 0; s <= everybody(); s++) {
        if (best >= 0 && Integer.bitCount(s) >= Integer.bitCount(best)) { continue; }
        if (fitting(s, glass()).size() == due) { best = s; }
      }
      return best;
    }

    int claim(int t, int c) {
      if (!isTaster(t) || !isCask(c)) { return no(-1); }
      List<int[]> all = fitting(1 << t, glass());
      int n = with(all, c);
      return n == 0 ? 2 : n < all.size() ? 1 : 0;
    }

    int team() {
      int best = -1;
      Set<Integer> due = twos(everybody());
      for (int size = 0; size <= 6 && best < 0; size++) {
        for (int s = 0; s <= everybody() && best < 0; s++) {
          if (Integer.bitCount(s) == size && twos(s).equals(due)) { best = s; }
        }
      }
      return best;
    }

    List<Integer> bestOrder;
    int bestLoss;

    void orders(List<Integer> begun, int memory) {
      int n = casks.size();
      if (begun.size() == n) {
        int loss = 0;
        for (int p = 0; p < n; p++) { loss += Math.max(0, (n - 1 - p) * sum(begun.get(p)) - memory * p); }
        if (bestOrder == null || loss < bestLoss) { bestOrder = new ArrayList<>(begun); bestLoss = loss; }
        return;
      }
      for (int c = 0; c < n; c++) {
        if (!begun.contains(c)) {
          begun.add(c);
          orders(begun, memory);
          begun.remove(begun.size() - 1);
        }
      }
    }

    int order(int t, int i) {
      if (!isTaster(t)) { return no(-1); }
      if (i < -1) { return no(-4); }
      if (casks.size() > 6) { return no(-3); }
      bestOrder = null;
      orders(new ArrayList<>(), tasters.get(t).memory());
      return i == -1 ? bestLoss : i < casks.size() ? bestOrder.get(i) : -9;
    }

    int tellers(int[] a, int[] b) {
      int n = 0;
      for (Taster t : tasters) { n += t.apart(a, b) ? 1 : 0; }
      return n;
    }

    int gone(int what) {
      if (!isWhat(what)) { return no(-2); }
      int which = -9;
      int least = -9;
      for (int c = casks.size() - 1; c >= 0; c--) {
        int[] s = shares();
        if (s[c] == 0) { continue; }
        s[c] = 0;
        int n = tellers(glass(), glassOf(casks, s, 0));
        if (which == -9 || n <= least) { which = c; least = n; }
      }
      return what == 0 ? which : least;
    }

    int emptyOnes() {
      int bits = 0;
      for (int c = 0; c < casks.size(); c++) {
        if (casks.get(c).share() == 0) { continue; }
        List<Cask> were = new ArrayList<>(casks);
        were.set(c, casks.get(c).kind(4, 0));
        if (tellers(glass(), glassOf(were, shares(), 0)) == 0) { bits += 1 << c; }
      }
      return bits;
    }

    int guess(int c, int r, int w, int what) {
      if (!isCask(c)) { return no(-1); }
      if (r < 1 || w < 0) { return no(-4); }
      if (r > 99 || w > 99) { return no(-6); }
      if (!isWhat(what)) { return no(-2); }
      long a = with(fitting(), c);
      long b = fitting().size();
      if (what == 0) { return b > 0 && r * a - w * (b - a) > 0 ? 1 : 0; }
      for (int x = 1; x <= 99; x++) {
        if (b > 0 && x * a - w * (b - a) > 0) { return x; }
      }
      return -9;
    }

    int fromWater(List<Integer> some) {
      int[] s = new int[casks.size()];
      for (int c : some) { s[c] = casks.get(c).share(); }
      return tellers(glassOf(casks, s, 0), new int[4]);
    }

    long gain;
    long orders;

    void comeIn(List<Integer> begun, List<Integer> left, int c) {
      if (left.isEmpty()) { return; }
      for (int next : left) {
        List<Integer> then = new ArrayList<>(left);
        then.remove((Integer) next);
        List<Integer> after = new ArrayList<>(begun);
        after.add(next);
        if (next == c) {
          long ways = 1;
          for (int i = 2; i <= then.size(); i++) { ways *= i; }
          gain += ways * (fromWater(after) - fromWater(begun));
          orders += ways;
        } else {
          comeIn(after, then, c);
        }
      }
    }

    long adds(int c, int part) {
      if (!isCask(c)) { return noLong(-1); }
      if (!isWhat(part)) { return noLong(-2); }
      if (casks.get(c).share() == 0) { return noLong(-3); }
      List<Integer> all = new ArrayList<>();
      for (int k = 0; k < casks.size(); k++) {
        if (casks.get(k).share() > 0) { all.add(k); }
      }
      gain = 0;
      orders = 0;
      comeIn(new ArrayList<>(), all, c);
      return part(gain, orders, part);
    }

    long onions(int t, int part) {
      if (t < 2) { return noLong(-4); }
      if (t > 20) { return noLong(-6); }
      if (!isWhat(part)) { return noLong(-2); }
      Set<Integer> due = twos(everybody());
      long above = 0;
      long below = 1;
      for (int k = 0; k < tasters.size(); k++) { below *= t; }
      for (int s = 0; s <= everybody(); s++) {
        long ways = 1;
        for (int k = 0; k < tasters.size(); k++) { ways *= (s & (1 << k)) != 0 ? t - 1 : 1; }
        if (twos(s).equals(due)) { above += ways; }
      }
      return part(above, below, part);
    }

    int[] rowArray() { return row.stream().mapToInt(Integer::intValue).toArray(); }

    int two(int what) {
      if (!isWhat(what)) { return no(-2); }
      if (row.size() != casks.size() || row.stream().anyMatch(v -> v > 9)) { return no(-3); }
      int[] there = glassOf(casks, rowArray(), 0);
      int who = 0;
      int marks = 0;
      for (int t = 0; t < tasters.size(); t++) {
        for (int m : tasters.get(t).tongue()) {
          if (tasters.get(t).tell(there[m]) != tasters.get(t).tell(glass()[m])) {
            who |= 1 << t;
            marks |= 1 << m;
          }
        }
      }
      return what == 0 ? who : marks;
    }

    int impostor(int t, int what) {
      if (!isTaster(t)) { return no(-1); }
      if (!isWhat(what)) { return no(-2); }
      if (row.size() != 4) { return no(-3); }
      Taster k = tasters.get(t);
      for (int m = 0; m < 4; m++) {
        if (what == 0 && k.tongue().contains(m) && k.tell(glass()[m]) != row.get(m)) { return m; }
        if (what == 1 && !k.tongue().contains(m) && row.get(m) > 0) { return m; }
      }
      return -9;
    }

    int far(int[] a, int[] b) {
      int n = 0;
      for (int m = 0; m < 4; m++) { n += Math.abs(a[m] - b[m]); }
      return n;
    }

    int nearest() {
      int which = -9;
      int least = Integer.MAX_VALUE;
      for (int two : others(Set.of())) {
        int n = far(tastes(two / 10), tastes(two % 10));
        if (n < least) { which = two; least = n; }
      }
      return which;
    }

    int strongest() {
      if (Arrays.stream(shares()).sum() == 0) { return -9; }
      int which = 0;
      for (int c = 1; c < casks.size(); c++) {
        if (shares()[c] * sum(c) > shares()[which] * sum(which)) { which = c; }
      }
      return which;
    }

    int sharper() {
      int who = -9;
      int least = fitting().size();
      for (int t = 0; t < tasters.size(); t++) {
        List<Taster> these = new ArrayList<>(tasters);
        these.set(t, new Taster(tasters.get(t).tongue(), 0, 0));
        int n = fitting(everybody(), glass(), these).size();
        if (n < least) { who = t; least = n; }
      }
      return who;
    }

    int more() {
      int which = -9;
      int least = fitting().size();
      for (int c = 0; c < casks.size(); c++) {
        int[] s = shares();
        s[c]++;
        if (s[c] > 9) { continue; }
        int n = fitting(everybody(), glassOf(casks, s, 0)).size();
        if (n < least) { which = c; least = n; }
      }
      return which;
    }

    int range(int m) {
      if (!isMark(m)) { return no(-1); }
      TreeSet<Integer> all = new TreeSet<>();
      for (int c = 0; c < casks.size(); c++) { all.add(tastes(c)[m]); }
      return all.isEmpty() ? 0 : all.last() - all.first();
    }

    int pour(int m, int v) {
      if (!isMark(m)) { return no(-1); }
      if (v < 0) { return no(-4); }
      if (v > 99) { return no(-6); }
      mixAll();
      int least = -9;
      for (int i = 0; i < allGlasses.size(); i++) {
        int parts = Arrays.stream(allGlasses.get(i)).sum();
        if (allTastes.get(i)[m] == v && (least == -9 || parts < least)) { least = parts; }
      }
      return least;
    }

    int like() {
      int bits = 0;
      for (int c = 0; c < casks.size(); c++) {
        if (tellers(tastes(c), glass()) == 0) { bits += 1 << c; }
      }
      return bits;
    }

    int duo(int what) {
      if (!isWhat(what)) { return no(-2); }
      int who = -9;
      int least = -9;
      for (int a = tasters.size() - 1; a >= 0; a--) {
        for (int b = tasters.size() - 1; b > a; b--) {
          int n = fitting((1 << a) + (1 << b), glass()).size();
          if (who == -9 || n <= least) { who = 10 * a + b; least = n; }
        }
      }
      return what == 0 ? who : least;
    }

    int hidden(int what) {
      if (!isWhat(what)) { return no(-2); }
      List<Integer> all = new ArrayList<>();
      for (int c = 0; c < casks.size(); c++) {
        for (int d : new int[] {-1, 1}) {
          int[] s = shares();
          s[c] += d;
          if (s[c] >= 0 && s[c] <= 9 && tellers(glass(), glassOf(casks, s, 0)) == 0) { all.add(10 * c + s[c]); }
        }
      }
      return what == 0 ? all.size() : all.isEmpty() ? -9 : all.get(0);
    }

    int diluted(int t) {
      if (!isTaster(t)) { return no(-1); }
      for (int w = 0; w <= 99; w++) {
        boolean nothing = true;
        for (int told : tasters.get(t).telling(glassOf(casks, shares(), w))) { nothing = nothing && told == 0; }
        if (nothing) { return w; }
      }
      return -9;
    }

    int kinds(int t) {
      if (!isTaster(t)) { return no(-1); }
      mixAll();
      Set<List<Integer>> all = new HashSet<>();
      for (int[] g : allTastes) { all.add(tasters.get(t).telling(g)); }
      return all.size();
    }

    int substitutes(int c) {
      if (!isCask(c)) { return no(-1); }
      if (casks.get(c).share() == 0) { return no(-3); }
      int bits = 0;
      for (int o = 0; o < casks.size(); o++) {
        int[] s = shares();
        if (o == c) { continue; }
        while (s[c] > 0) {
          s[c]--;
          if (s[o] < 9) { s[o]++; }
        }
        if (tellers(glass(), glassOf(casks, s, 0)) == 0) { bits += 1 << o; }
      }
      return bits;
    }

    int exact(int t) {
      if (!isTaster(t)) { return no(-1); }
      int n = 0;
      for (int c = 0; c < casks.size(); c++) {
        for (int m : tasters.get(t).tongue()) { n += tasters.get(t).tell(tastes(c)[m]) == tastes(c)[m] ? 1 : 0; }
      }
      return n;
    }

    int bluntest(int t, int a, int b) {
      if (!isTaster(t) || !isCask(a) || !isCask(b) || a == b) { return no(-1); }
      int most = -9;
      for (int v = 0; v <= 9; v++) {
        if (new Taster(tasters.get(t).tongue(), v, 0).apart(tastes(a), tastes(b))) { most = v; }
      }
      return most;
    }

    int closest(int i) {
      if (i < -1) { return no(-4); }
      if (row.size() != 4) { return no(-3); }
      mixAll();
      int best = -1;
      int least = Integer.MAX_VALUE;
      for (int g = 0; g < allGlasses.size(); g++) {
        int n = far(allTastes.get(g), rowArray());
        if (n < least) { best = g; least = n; }
      }
      if (best < 0) { return -9; }
      return i == -1 ? least : i < casks.size() ? allGlasses.get(best)[i] : -9;
    }

    int rank(int i) {
      if (i < 0) { return no(-4); }
      List<Integer> all = new ArrayList<>();
      for (int c = 0; c < casks.size(); c++) { all.add(c); }
      all.sort((a, b) -> sum(b) - sum(a));
      return i < all.size() ? all.get(i) : -9;
    }

    int alikeGlasses() {
      mixAll();
      int n = 0;
      for (int[] g : allTastes) { n += Arrays.equals(g, glass()) ? 1 : 0; }
      return n;
    }

    int blind(int t, int what) {
      if (!isTaster(t)) { return no(-1); }
      if (!isWhat(what)) { return no(-2); }
      return manyOrFirst(others(twos(1 << t)), what);
    }

    int loner(int what) {
      if (!isWhat(what)) { return no(-2); }
      int which = -9;
      int most = 0;
      for (int c = casks.size() - 1; c >= 0; c--) {
        int n = 0;
        for (int o = 0; o < casks.size(); o++) {
          for (Taster t : tasters) { n += o != c && t.apart(tastes(o), tastes(c)) ? 1 : 0; }
        }
        if (n >= most) { which = c; most = n; }
      }
      return what == 0 ? which : most;
    }

    int twin(int c) {
      if (!isCask(c)) { return no(-1); }
      int which = -9;
      int least = Integer.MAX_VALUE;
      for (int o = 0; o < casks.size(); o++) {
        if (o != c && far(tastes(o), tastes(c)) < least) { which = o; least = far(tastes(o), tastes(c)); }
      }
      return which;
    }

    int row(int v) {
      if (v < 0) { return no(-4); }
      if (v > 99 || row.size() == 12) { return no(-6); }
      row.add(v);
      return row.size();
    }

    int judge(int m) {
      if (!isMark(m)) { return no(-1); }
      List<Integer> said = row;
      row = new ArrayList<>();
      for (int i = 0; i < said.size(); i++) {
        if (i > casks.size() || said.get(i) != at(i - 1)[m]) { return i; }
      }
      return -9;
    }

    int clear() {
      int n = row.size();
      row = new ArrayList<>();
      return n;
    }

    int lots(int n, int z, int what) {
      if (n < 1) { return no(-4); }
      if (n > 20) { return no(-6); }
      if (!isWhat(what)) { return no(-2); }
      int all = 0;
      int single = 0;
      for (int k = 0; k < n; k++) {
        int[] s = new int[casks.size()];
        for (int c = 0; c < s.length; c++) {
          z = z * 1103515245 + 12345;
          long without = z < 0 ? (long) z + 2147483648L : z;
          s[c] = (int) (without / 65536 % 3);
        }
        if (Arrays.stream(s).sum() == 0) { continue; }
        int fits = fitting(everybody(), glassOf(casks, s, 0)).size();
        all += fits;
        single += fits == 1 ? 1 : 0;
      }
      return what == 0 ? all : single;
    }

    int image() {
      imageCasks = new ArrayList<>(casks);
      imageTasters = new ArrayList<>(tasters);
      return casks.size();
    }

    int restore() {
      if (imageCasks == null) { return no(-3); }
      casks = new ArrayList<>(imageCasks);
      tasters = new ArrayList<>(imageTasters);
      changes.clear();
      return casks.size();
    }

    int count(int what) {
      switch (what) {
        case 0: return casks.size();
        case 1: return tasters.size();
        case 2: return Arrays.stream(shares()).sum();
        case 3: return casks.stream().mapToInt(c -> c.marks().stream().mapToInt(v -> v).sum()).sum();
        case 4: return letters.length();
        case 5: return row.size();
        case 6: return changes.size();
        default: return what >= 11 && what <= 16 ? refused[what - 10] : -9;
      }
    }
  }
}
