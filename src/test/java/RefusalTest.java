import java.util.ArrayList;
import java.util.Arrays;
import java.util.List;

/**
 * Every call, in cellars of all sizes, with each number on its edges and one beside them, in all
 * combinations: the refusal is the first that fits in the order in which the promise tells them,
 * it is counted once, and it changes nothing else; a question changes nothing at all.
 */
public final class RefusalTest {
  private static final int PROMISES = 57;
  private static final int NOBODY = -1;
  private static final int OTHER = -2;
  private static final int STATE = -3;
  private static final int BELOW = -4;
  private static final int ROOM = -6;
  private static final long LONGS = 4000000000000000000L;
  private static final int MOST_CALLS = 512;
  /** No place takes more to be made, with the call that is tried and the counts beside. */
  private static final int CALLS_TO_MAKE = 140;

  private static final int[] asked = new int[PROMISES + 1];
  private static final int[] refused = new int[PROMISES + 1];
  private static int wrong = 0;

  public static void main(String[] args) {
    List<Place> places = places();
    for (Call call : calls()) {
      for (Place place : places) {
        all(call, place);
      }
    }
    everyPromiseIsAsked();
    System.out.println(Arrays.stream(asked).sum() + " calls on the edges, " + Arrays.stream(refused).sum()
        + " of them refused, " + wrong + " not as due");
    if (wrong != 0) {
      System.exit(1);
    }
  }

  private static void everyPromiseIsAsked() {
    List<Integer> neverRefused = List.of(3, 20, 22, 25, 31, 32, 33, 34, 37, 47, 53, 55, 57);
    for (int p = 2; p <= PROMISES; p++) {
      say(asked[p] > 0, "promise " + p + " has no test");
      say(refused[p] > 0 != neverRefused.contains(p), "promise " + p + " was refused " + refused[p] + " times");
    }
  }

  private static void say(boolean right, String what) {
    if (!right) {
      wrong++;
      if (wrong <= 100) {
        System.out.println(what);
      }
    }
  }

  // ---------------------------------------------------------------- the places

  private interface Making {
    void make(BuriedBySevens x);
  }

  /** What there is where a call is made, told by hand. */
  private record Place(String name, int[] shares, int tasters, int letters, int[] row, int back, boolean imaged, Making making) {
    int casks() {
      return shares.length;
    }

    boolean hasCask(int cask) {
      return cask >= 0 && cask < casks();
    }

    boolean hasTaster(int taster) {
      return taster >= 0 && taster < tasters;
    }

    boolean isTwo(int one, int other) {
      return hasCask(one) && hasCask(other) && one != other;
    }

    boolean rowIsOfShares() {
      return row.length == casks() && Arrays.stream(row).allMatch(v -> v <= 9);
    }

    BuriedBySevens made() {
      BuriedBySevens x = new BuriedBySevens();
      making.make(x);
      return x;
    }
  }

  private static List<Place> places() {
    return List.of(
        new Place("a new object", new int[0], 0, 0, new int[0], 0, false, x -> { }),
        new Place("tasters alone", new int[0], 2, 1, new int[] {0, 99, 0, 99}, 0, true, RefusalTest::tastersAlone),
        new Place("casks alone", new int[] {9, 0}, 0, 3, new int[] {0, 10}, 1, false, RefusalTest::casksAlone),
        new Place("three casks", new int[] {1, 0, 2}, 2, 12, new int[] {9, 9, 9}, 3, true, RefusalTest::threeCasks),
        new Place("four casks", new int[] {0, 9, 0, 1}, 3, 0, new int[] {9, 0, 9, 9}, 0, true, RefusalTest::fourCasks),
        new Place("six casks", new int[] {0, 0, 0, 0, 0, 0}, 5, 95, new int[11], 7, false, RefusalTest::sixCasks),
        new Place("all full", new int[] {9, 8, 0, 6, 5, 4, 9}, 6, 96, new int[12], 8, true, RefusalTest::allFull));
  }

  private static void tastersAlone(BuriedBySevens x) {
    x.joins(5, 4, 3);
    x.image();
    x.joins(15, 9, 9);
    rowOf(x, 0, 99, 0, 99);
    feedAll(x, ";");
  }

  private static void casksAlone(BuriedBySevens x) {
    x.comes(0, 1, 1234);
    x.comes(5, 9, 9876);
    x.share(0, 9);
    rowOf(x, 0, 10);
    feedAll(x, "c00");
  }

  private static void threeCasks(BuriedBySevens x) {
    x.comes(1, 2, 3456);
    x.image();
    x.comes(4, 0, 2222);
    x.comes(3, 9, 9990);
    x.joins(3, 1, 4);
    x.joins(12, 5, 9);
    x.share(0, 1);
    x.kind(1, 2, 8);
    x.share(2, 2);
    rowOf(x, 9, 9, 9);
    feedAll(x, "c012345;s39;");
  }

  private static void fourCasks(BuriedBySevens x) {
    feedAll(x, "c001234;c175050;c209876;c332100;t1500;t0331;t1294;s19;s31;");
    x.cellar();
    x.image();
    rowOf(x, 9, 0, 9, 9);
  }

  private static void sixCasks(BuriedBySevens x) {
    for (int c = 0; c < 6; c++) {
      x.comes(c, c, 1111 * c + 7);
    }
    for (int t = 0; t < 5; t++) {
      x.joins(t + 5, t, t);
    }
    for (int c = 0; c < 6; c++) {
      x.mark(c, c % 4, 9);
    }
    x.kind(5, 4, 4);
    rowOf(x, new int[11]);
    for (int k = 0; k < 95; k++) {
      x.feed("s00;".charAt(k % 4));
    }
  }

  private static void allFull(BuriedBySevens x) {
    for (int c = 0; c < 7; c++) {
      x.comes(c % 6, 9 - c, 1357 * c);
    }
    for (int t = 0; t < 6; t++) {
      x.joins(2 * t + 1, t, 9 - t);
    }
    x.image();
    for (int c = 0; c < 7; c++) {
      x.share(c, c == 2 ? 0 : 9 - c);
    }
    x.share(6, 9);
    x.kind(3, 1, 2);
    rowOf(x, new int[12]);
    for (int k = 0; k < 96; k++) {
      x.feed("m638;".charAt(k % 5));
    }
  }

  private static void feedAll(BuriedBySevens x, String letters) {
    for (int i = 0; i < letters.length(); i++) {
      x.feed(letters.charAt(i));
    }
  }

  private static void rowOf(BuriedBySevens x, int... numbers) {
    for (int v : numbers) {
      x.row(v);
    }
  }

  // ---------------------------------------------------------------- the calls

  private interface Asking {
    long ask(BuriedBySevens x, int[] a);
  }

  private interface Refusing {
    boolean fits(Place p, int[] a);
  }

  private interface Edges {
    int[] in(Place p);
  }

  private record Why(int number, Refusing refusing) { }

  /** A call: its promise, whether it changes anything, what it takes, and its refusals in order. */
  private record Call(int promise, String name, boolean changes, boolean isLong, Asking asking, List<Edges> takes, List<Why> whys) {
    Call takes(Edges edges) {
      takes.add(edges);
      return this;
    }

    Call takes(int least, int greatest) {
      return takes(p -> new int[] {least, greatest});
    }

    Call takesCask() {
      return takes(p -> new int[] {0, p.casks() - 1});
    }

    Call takesCaskOrGlass() {
      return takes(p -> new int[] {-1, p.casks() - 1});
    }

    Call takesTaster() {
      return takes(p -> new int[] {0, p.tasters() - 1});
    }

    Call refuses(int number, Refusing refusing) {
      whys.add(new Why(number, refusing));
      return this;
    }

    /** How most calls end: a last number that is 0 or 1. */
    Call takesWhat() {
      int k = takes.size();
      return takes(0, 1).refuses(OTHER, (p, a) -> a[k] < 0 || a[k] > 1);
    }
  }

  private static Call asks(int promise, String name, Asking asking) {
    return new Call(promise, name, false, false, asking, new ArrayList<>(), new ArrayList<>());
  }

  private static Call asksLong(int promise, String name, Asking asking) {
    return new Call(promise, name, false, true, asking, new ArrayList<>(), new ArrayList<>());
  }

  private static Call changes(int promise, String name, Asking asking) {
    return new Call(promise, name, true, false, asking, new ArrayList<>(), new ArrayList<>());
  }

  private static List<Call> calls() {
    List<Call> all = new ArrayList<>();
    callsOfI(all);
    callsOfTelling(all);
    callsOfReckoning(all);
    callsOfIII(all);
    callsOfIV(all);
    callsOfTheRow(all);
    return all;
  }

  private static void callsOfI(List<Call> all) {
    all.add(changes(2, "feed", (x, a) -> x.feed(a[0])).takes(0, 255)
        .refuses(BELOW, (p, a) -> a[0] < 0)
        .refuses(ROOM, (p, a) -> a[0] > 255 || p.letters() == 96));
    all.add(changes(3, "cellar", (x, a) -> x.cellar()));
    all.add(asks(4, "cask", (x, a) -> x.cask(a[0], a[1])).takesCask().takes(0, 6)
        .refuses(NOBODY, (p, a) -> !p.hasCask(a[0]))
        .refuses(OTHER, (p, a) -> a[1] < 0 || a[1] > 6));
    all.add(asks(5, "taster", (x, a) -> x.taster(a[0], a[1])).takesTaster().takes(0, 2)
        .refuses(NOBODY, (p, a) -> !p.hasTaster(a[0]))
        .refuses(OTHER, (p, a) -> a[1] < 0 || a[1] > 2));
    all.add(changes(6, "comes", (x, a) -> x.comes(a[0], a[1], a[2])).takes(0, 5).takes(0, 9).takes(0, 9999)
        .refuses(OTHER, (p, a) -> a[0] < 0 || a[0] > 5)
        .refuses(BELOW, (p, a) -> a[1] < 0 || a[2] < 0)
        .refuses(ROOM, (p, a) -> a[1] > 9 || a[2] > 9999 || p.casks() == 7));
    all.add(changes(7, "joins", (x, a) -> x.joins(a[0], a[1], a[2])).takes(1, 15).takes(0, 9).takes(0, 9)
        .refuses(BELOW, (p, a) -> a[0] < 1 || a[1] < 0 || a[2] < 0)
        .refuses(ROOM, (p, a) -> a[0] > 15 || a[1] > 9 || a[2] > 9 || p.tasters() == 6));
    all.add(changes(8, "share", (x, a) -> x.share(a[0], a[1])).takesCask().takes(0, 9)
        .refuses(NOBODY, (p, a) -> !p.hasCask(a[0]))
        .refuses(BELOW, (p, a) -> a[1] < 0)
        .refuses(ROOM, (p, a) -> a[1] > 9));
    all.add(changes(9, "mark", (x, a) -> x.mark(a[0], a[1], a[2])).takesCask().takes(0, 3).takes(0, 9)
        .refuses(NOBODY, (p, a) -> !p.hasCask(a[0]) || a[1] < 0 || a[1] > 3)
        .refuses(BELOW, (p, a) -> a[2] < 0)
        .refuses(ROOM, (p, a) -> a[2] > 9));
    all.add(changes(10, "kind", (x, a) -> x.kind(a[0], a[1], a[2])).takesCask().takes(0, 5).takes(0, 9)
        .refuses(NOBODY, (p, a) -> !p.hasCask(a[0]))
        .refuses(OTHER, (p, a) -> a[1] < 0 || a[1] > 5)
        .refuses(BELOW, (p, a) -> a[2] < 0)
        .refuses(ROOM, (p, a) -> a[2] > 9));
    all.add(changes(11, "back", (x, a) -> x.back()).refuses(STATE, (p, a) -> p.back() == 0));
    all.add(changes(55, "image", (x, a) -> x.image()));
    all.add(changes(56, "restore", (x, a) -> x.restore()).refuses(STATE, (p, a) -> !p.imaged()));
    all.add(asks(57, "count", (x, a) -> x.count(a[0])).takes(0, 6));
    all.add(asks(57, "count", (x, a) -> x.count(a[0])).takes(11, 16));
  }

  private static void callsOfTelling(List<Call> all) {
    all.add(asks(12, "taste", (x, a) -> x.taste(a[0], a[1])).takesCaskOrGlass().takes(0, 3)
        .refuses(NOBODY, (p, a) -> a[0] != -1 && !p.hasCask(a[0]) || a[1] < 0 || a[1] > 3));
    all.add(asks(13, "tells", (x, a) -> x.tells(a[0], a[1], a[2])).takesTaster().takesCaskOrGlass().takes(0, 3)
        .refuses(NOBODY, (p, a) -> !p.hasTaster(a[0]) || a[1] != -1 && !p.hasCask(a[1]) || a[2] < 0 || a[2] > 3));
    all.add(asks(14, "apart", (x, a) -> x.apart(a[0], a[1], a[2])).takesTaster().takesCask().takesCask()
        .refuses(NOBODY, (p, a) -> !p.hasTaster(a[0]) || !p.isTwo(a[1], a[2])));
    all.add(asks(15, "alike", (x, a) -> x.alike(a[0])).takesWhat());
    all.add(asks(16, "fits", (x, a) -> x.fits(a[0])).takes(p -> new int[] {-1, p.casks() - 1})
        .refuses(BELOW, (p, a) -> a[0] < -1));
    all.add(asksLong(17, "in", (x, a) -> x.in(a[0], a[1])).takesCask()
        .refuses(NOBODY, (p, a) -> !p.hasCask(a[0])).takesWhat());
    all.add(asks(18, "sure", (x, a) -> x.sure(a[0])).takesWhat());
    all.add(asks(19, "tellsMost", (x, a) -> x.tellsMost(a[0])).takesWhat());
    all.add(asks(20, "drops", (x, a) -> x.drops()));
    all.add(asks(21, "claim", (x, a) -> x.claim(a[0], a[1])).takesTaster().takesCask()
        .refuses(NOBODY, (p, a) -> !p.hasTaster(a[0]) || !p.hasCask(a[1])));
    all.add(asks(22, "team", (x, a) -> x.team()));
  }

  private static void callsOfReckoning(List<Call> all) {
    all.add(asks(23, "order", (x, a) -> x.order(a[0], a[1])).takesTaster().takes(p -> new int[] {-1, p.casks() - 1})
        .refuses(NOBODY, (p, a) -> !p.hasTaster(a[0]))
        .refuses(BELOW, (p, a) -> a[1] < -1)
        .refuses(STATE, (p, a) -> p.casks() > 6));
    all.add(asks(24, "gone", (x, a) -> x.gone(a[0])).takesWhat());
    all.add(asks(25, "emptyOnes", (x, a) -> x.emptyOnes()));
    all.add(asks(26, "guess", (x, a) -> x.guess(a[0], a[1], a[2], a[3])).takesCask().takes(1, 99).takes(0, 99)
        .refuses(NOBODY, (p, a) -> !p.hasCask(a[0]))
        .refuses(BELOW, (p, a) -> a[1] < 1 || a[2] < 0)
        .refuses(ROOM, (p, a) -> a[1] > 99 || a[2] > 99).takesWhat());
    all.add(asksLong(27, "adds", (x, a) -> x.adds(a[0], a[1])).takesCask()
        .refuses(NOBODY, (p, a) -> !p.hasCask(a[0])).takesWhat()
        .refuses(STATE, (p, a) -> p.shares()[a[0]] == 0));
    all.add(asksLong(28, "onions", (x, a) -> x.onions(a[0], a[1])).takes(2, 20)
        .refuses(BELOW, (p, a) -> a[0] < 2)
        .refuses(ROOM, (p, a) -> a[0] > 20).takesWhat());
    all.add(asks(54, "lots", (x, a) -> x.lots(a[0], a[1], a[2])).takes(1, 20).takes(-1, 0)
        .refuses(BELOW, (p, a) -> a[0] < 1)
        .refuses(ROOM, (p, a) -> a[0] > 20).takesWhat());
  }

  private static void callsOfIII(List<Call> all) {
    all.add(asks(31, "nearest", (x, a) -> x.nearest()));
    all.add(asks(32, "strongest", (x, a) -> x.strongest()));
    all.add(asks(33, "sharper", (x, a) -> x.sharper()));
    all.add(asks(34, "more", (x, a) -> x.more()));
    all.add(asks(35, "range", (x, a) -> x.range(a[0])).takes(0, 3)
        .refuses(NOBODY, (p, a) -> a[0] < 0 || a[0] > 3));
    all.add(asks(36, "pour", (x, a) -> x.pour(a[0], a[1])).takes(0, 3).takes(0, 99)
        .refuses(NOBODY, (p, a) -> a[0] < 0 || a[0] > 3)
        .refuses(BELOW, (p, a) -> a[1] < 0)
        .refuses(ROOM, (p, a) -> a[1] > 99));
    all.add(asks(37, "like", (x, a) -> x.like()));
  }

  private static void callsOfIV(List<Call> all) {
    all.add(asks(38, "duo", (x, a) -> x.duo(a[0])).takesWhat());
    all.add(asks(39, "hidden", (x, a) -> x.hidden(a[0])).takesWhat());
    all.add(asks(40, "diluted", (x, a) -> x.diluted(a[0])).takesTaster()
        .refuses(NOBODY, (p, a) -> !p.hasTaster(a[0])));
    all.add(asks(41, "kinds", (x, a) -> x.kinds(a[0])).takesTaster()
        .refuses(NOBODY, (p, a) -> !p.hasTaster(a[0])));
    all.add(asks(42, "substitutes", (x, a) -> x.substitutes(a[0])).takesCask()
        .refuses(NOBODY, (p, a) -> !p.hasCask(a[0]))
        .refuses(STATE, (p, a) -> p.shares()[a[0]] == 0));
    all.add(asks(43, "exact", (x, a) -> x.exact(a[0])).takesTaster()
        .refuses(NOBODY, (p, a) -> !p.hasTaster(a[0])));
    all.add(asks(44, "bluntest", (x, a) -> x.bluntest(a[0], a[1], a[2])).takesTaster().takesCask().takesCask()
        .refuses(NOBODY, (p, a) -> !p.hasTaster(a[0]) || !p.isTwo(a[1], a[2])));
    all.add(asks(46, "rank", (x, a) -> x.rank(a[0])).takes(p -> new int[] {0, p.casks() - 1})
        .refuses(BELOW, (p, a) -> a[0] < 0));
    all.add(asks(47, "alikeGlasses", (x, a) -> x.alikeGlasses()));
    all.add(asks(48, "blind", (x, a) -> x.blind(a[0], a[1])).takesTaster()
        .refuses(NOBODY, (p, a) -> !p.hasTaster(a[0])).takesWhat());
    all.add(asks(49, "loner", (x, a) -> x.loner(a[0])).takesWhat());
    all.add(asks(50, "twin", (x, a) -> x.twin(a[0])).takesCask()
        .refuses(NOBODY, (p, a) -> !p.hasCask(a[0])));
  }

  private static void callsOfTheRow(List<Call> all) {
    all.add(asks(29, "two", (x, a) -> x.two(a[0])).takesWhat()
        .refuses(STATE, (p, a) -> !p.rowIsOfShares()));
    all.add(asks(30, "impostor", (x, a) -> x.impostor(a[0], a[1])).takesTaster()
        .refuses(NOBODY, (p, a) -> !p.hasTaster(a[0])).takesWhat()
        .refuses(STATE, (p, a) -> p.row().length != 4));
    all.add(asks(45, "closest", (x, a) -> x.closest(a[0])).takes(p -> new int[] {-1, p.casks() - 1})
        .refuses(BELOW, (p, a) -> a[0] < -1)
        .refuses(STATE, (p, a) -> p.row().length != 4));
    all.add(changes(51, "row", (x, a) -> x.row(a[0])).takes(0, 99)
        .refuses(BELOW, (p, a) -> a[0] < 0)
        .refuses(ROOM, (p, a) -> a[0] > 99 || p.row().length == 12));
    all.add(changes(52, "judge", (x, a) -> x.judge(a[0])).takes(0, 3)
        .refuses(NOBODY, (p, a) -> a[0] < 0 || a[0] > 3));
    all.add(changes(53, "clear", (x, a) -> x.clear()));
  }

  // ---------------------------------------------------------------- asking

  /** A call with all combinations of the least, the greatest, and what is beyond them. */
  private static void all(Call call, Place place) {
    List<Long> untouched = seenOf(place.made(), place);
    int[][] values = new int[call.takes().size()][];
    int many = 1;
    for (int k = 0; k < values.length; k++) {
      int[] ends = call.takes().get(k).in(place);
      values[k] = new int[] {Integer.MIN_VALUE, ends[0] - 1, ends[0], ends[1], ends[1] + 1, Integer.MAX_VALUE};
      many *= values[k].length;
    }
    for (int number = 0; number < many; number++) {
      int[] with = new int[values.length];
      int rest = number;
      for (int k = 0; k < with.length; k++) {
        with[k] = values[k][rest % values[k].length];
        rest /= values[k].length;
      }
      one(call, place, with, untouched);
    }
  }

  private static void one(Call call, Place place, int[] with, List<Long> untouched) {
    int due = dueOf(call, place, with);
    String told = place.name() + ": " + call.name() + Arrays.toString(with);
    BuriedBySevens x = place.made();
    long answer = call.asking().ask(x, with);
    asked[call.promise()]++;
    if (due != 0) {
      refused[call.promise()]++;
      say(answer == (call.isLong() ? LONGS - due : due), told + " answered " + answer + ", due is the refusal " + due);
    }
    List<Long> seen = seenOf(x, place);
    for (int k = 0; k < 6; k++) {
      long counted = due == -1 - k ? 1 : 0;
      say(seen.get(k) == counted, told + ": refusals " + (-1 - k) + " counted " + seen.get(k) + ", due is " + counted);
    }
    if (due != 0 || !call.changes()) {
      int n = seen.size();
      say(n == untouched.size() && seen.subList(6, n).equals(untouched.subList(6, n)), told + " changed something");
    }
  }

  private static int dueOf(Call call, Place place, int[] with) {
    for (Why why : call.whys()) {
      if (why.refusing().fits(place, with)) {
        return why.number();
      }
    }
    return 0;
  }

  /** All that can be seen of an object, with what can be taken back, the letters and the image. */
  private static List<Long> seenOf(BuriedBySevens x, Place place) {
    List<Long> seen = new ArrayList<>();
    int casks = x.count(0);
    int tasters = x.count(1);
    for (int what = 11; what <= 16; what++) {
      seen.add((long) x.count(what));
    }
    for (int what = 0; what <= 6; what++) {
      seen.add((long) x.count(what));
    }
    dumpCasks(x, casks, seen);
    for (int t = 0; t < tasters; t++) {
      for (int what = 0; what < 3; what++) {
        seen.add((long) x.taster(t, what));
      }
    }
    for (int c = -1; c < casks; c++) {
      for (int m = 0; m < 4; m++) {
        seen.add((long) x.taste(c, m));
      }
    }
    seen.add((long) x.fits(-1));
    seen.add((long) x.two(1));
    seen.add((long) x.impostor(0, 0));
    seen.add((long) x.closest(-1));
    seen.add((long) x.judge(0));
    for (int k = 0; k < 9; k++) {
      seen.add((long) x.back());
    }
    dumpCasks(x, casks, seen);
    seen.add((long) x.cellar());
    dumpCasks(x, x.count(0), seen);
    seen.add((long) x.restore());
    seen.add((long) x.count(1));
    dumpCasks(x, x.count(0), seen);
    say(seen.size() + CALLS_TO_MAKE <= MOST_CALLS, place.name() + ": " + seen.size() + " calls to see it all");
    return seen;
  }

  private static void dumpCasks(BuriedBySevens x, int casks, List<Long> seen) {
    for (int c = 0; c < casks; c++) {
      for (int what = 0; what < 7; what++) {
        seen.add((long) x.cask(c, what));
      }
    }
  }
}
