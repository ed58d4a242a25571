import java.util.ArrayList;
import java.util.HashSet;
import java.util.List;
import java.util.Set;

/**
 * The edges that the document names, a sentence after the other: cellars with nothing in them and
 * full ones, an empty glass, nobody to taste, texts and rows that are full, all that can be taken
 * back and one more, the least and the greatest numbers, draws that wrap around. Counted out by
 * hand, but for draws and kinds of glasses. What is refused, and in which order, RefusalTest asks.
 */
public final class EdgeTest {
  private static final int PROMISES = 57;
  private static final int[] asked = new int[PROMISES + 1];
  private static int wrong = 0;
  private static BuriedBySevens x = null;

  public static void main(String[] args) {
    nothingAtAll();
    nothingReckoned();
    tastersAlone();
    casksAlone();
    casksAloneReckoned();
    emptyGlass();
    emptyGlassReckoned();
    fullCellarTold();
    fullCellarFits();
    fullCellarReckoned();
    fullCellarWithoutShares();
    sevenAlike();
    sevenAlikeReckoned();
    sevenAlikeBluntly();
    sevenComeIn();
    kindsOfAllGlasses();
    sixInOrder();
    greatestTastes();
    toldOnTheEdges();
    fullText();
    lettersOnTheEdges();
    faultsOnTheEdges();
    fullRow();
    rowOnTheEdges();
    rowAfterAFullOne();
    mostTakenBack();
    tenUnlikeTakenBack();
    whatLeavesNone();
    images();
    sharesOnTheEdges();
    guessesOnTheEdges();
    glassesOnTheEdges();
    drawsThatWrap();
    lastCall();
    everyPromiseIsAsked();
    if (wrong != 0) {
      System.exit(1);
    }
  }

  // ---------------------------------------------------------------- helpers

  private static void due(int promise, long got, long want, String what) {
    asked[promise]++;
    if (got != want) {
      wrong++;
      System.out.println("promise " + promise + ": " + what + ": " + got + ", due is " + want);
    }
  }

  private static void everyPromiseIsAsked() {
    int all = 0;
    for (int p = 1; p <= PROMISES; p++) {
      all += asked[p];
      if (asked[p] == 0) {
        wrong++;
        System.out.println("promise " + p + " has no edge asked for");
      }
    }
    System.out.println(all + " answers on the edges asked for, " + wrong + " not as due");
  }

  private static int told(String letters) {
    for (int i = 0; i < letters.length(); i++) {
      x.feed(letters.charAt(i));
    }
    return x.cellar();
  }

  private static void rowAll(int... numbers) {
    x.clear();
    for (int v : numbers) {
      x.row(v);
    }
  }

  private static void rowOfSame(int times, int v) {
    x.clear();
    for (int k = 0; k < times; k++) {
      x.row(v);
    }
  }

  /** Tastes 3 6 9 12 and 22 7 22 7, a share of each: the glass is 12 6 15 9. */
  private static void twoCasks() {
    x.comes(0, 0, 1234);
    x.comes(1, 7, 5050);
    x.share(0, 1);
    x.share(1, 1);
  }

  // ---------------------------------------------------------------- a new object

  private static void nothingAtAll() {
    x = new BuriedBySevens();
    due(1, x.count(0), 0, "no casks");
    due(1, x.count(1), 0, "no tasters");
    due(3, x.cellar(), -1000, "no letters");
    for (int m = 0; m < 4; m++) {
      due(12, x.taste(-1, m), 0, "0 of nothing");
      due(35, x.range(m), 0, "0 without casks");
      due(36, x.pour(m, 0), -9, "no glass");
      due(36, x.pour(m, 99), -9, "no glass");
      due(52, x.judge(m), -9, "nothing said");
    }
    due(4, x.cask(0, 0), -1, "no cask");
    due(5, x.taster(0, 0), -1, "no taster");
    due(8, x.share(0, 0), -1, "no cask");
    due(9, x.mark(0, 0, 0), -1, "no cask");
    due(10, x.kind(0, 0, 0), -1, "no cask");
    due(11, x.back(), -3, "nothing to take back");
    due(13, x.tells(0, -1, 0), -1, "no taster");
    due(14, x.apart(0, 0, 1), -1, "no taster, no casks");
    due(15, x.alike(0), 0, "no twos");
    due(15, x.alike(1), -9, "no twos");
    due(16, x.fits(-1), 0, "no glass fits");
    due(16, x.fits(0), -9, "none");
    due(18, x.sure(0), 0, "none fits");
    due(18, x.sure(1), 0, "none fits");
    due(19, x.tellsMost(0), -9, "no taster");
    due(19, x.tellsMost(1), -9, "no taster");
    due(20, x.drops(), 0, "nobody");
    due(22, x.team(), 0, "nobody");
    due(53, x.clear(), 0, "the row had none");
    due(55, x.image(), 0, "no casks");
    due(56, x.restore(), 0, "no casks");
    due(2, x.feed(0), 1, "the first letter");
    due(51, x.row(0), 1, "the first number");
    due(6, x.comes(0, 0, 0), 0, "the first cask");
    due(7, x.joins(1, 0, 0), 0, "the first taster");
  }

  private static void nothingReckoned() {
    x = new BuriedBySevens();
    for (int what = 0; what <= 1; what++) {
      due(24, x.gone(what), -9, "nothing is in");
      due(29, x.two(what), 0, "no numbers for no casks: the same glass of nothing");
      due(38, x.duo(what), -9, "nobody");
      due(54, x.lots(20, 1, what), 0, "glasses of nothing");
      due(28, x.onions(2, what), 1, "nobody, no twos: 1 over 1");
      due(28, x.onions(20, what), 1, "nobody, no twos: 1 over 1");
    }
    due(25, x.emptyOnes(), 0, "no casks");
    due(31, x.nearest(), -9, "no twos");
    due(32, x.strongest(), -9, "nothing is in");
    due(33, x.sharper(), -9, "nobody");
    due(34, x.more(), -9, "no casks");
    due(37, x.like(), 0, "no casks");
    due(39, x.hidden(0), 0, "no shares");
    due(39, x.hidden(1), -9, "no shares");
    due(46, x.rank(0), -9, "no casks");
    due(47, x.alikeGlasses(), 0, "no glasses");
    due(49, x.loner(0), -9, "there are none");
    due(49, x.loner(1), 0, "there are none");
    rowOfSame(4, 0);
    due(45, x.closest(-1), -9, "no casks");
    due(45, x.closest(0), -9, "no casks");
    due(29, x.two(0), -3, "four numbers for no casks");
  }

  // ---------------------------------------------------------------- no casks, or nobody

  private static void tastersAlone() {
    x = new BuriedBySevens();
    x.joins(15, 0, 0);
    due(38, x.duo(0), -9, "fewer than two");
    due(38, x.duo(1), -9, "fewer than two");
    x.joins(1, 9, 9);
    due(38, x.duo(0), 1, "two are enough");
    due(38, x.duo(1), 0, "no glasses");
    due(13, x.tells(0, -1, 3), 0, "a glass of nothing");
    due(13, x.tells(1, -1, 3), -9, "he does not taste it");
    due(15, x.alike(0), 0, "no twos");
    due(19, x.tellsMost(0), 0, "of several the least");
    due(19, x.tellsMost(1), 0, "no glasses");
    due(20, x.drops(), 0, "nobody is needed");
    due(22, x.team(), 0, "nobody is needed");
    due(23, x.order(1, -1), 0, "nothing to forget");
    due(23, x.order(1, 0), -9, "no casks");
    due(28, x.onions(2, 0), 1, "no twos");
    due(28, x.onions(2, 1), 1, "no twos");
    due(33, x.sharper(), -9, "no glasses");
    due(40, x.diluted(0), 0, "nothing is told already");
    due(41, x.kinds(0), 0, "no glasses");
    due(43, x.exact(0), 0, "no tastes");
    due(48, x.blind(0, 0), 0, "no twos");
    due(48, x.blind(0, 1), -9, "no twos");
    due(54, x.lots(1, 0, 0), 0, "a glass of nothing");
    rowAll(0, 0, 0, 1);
    due(30, x.impostor(0, 0), 3, "of nothing 0 is told");
    due(30, x.impostor(0, 1), -9, "he tastes all");
    due(30, x.impostor(1, 0), -9, "0 of mark 0");
    due(30, x.impostor(1, 1), 3, "mark 3 is named");
  }

  private static void casksAlone() {
    x = new BuriedBySevens();
    twoCasks();
    due(14, x.apart(0, 0, 1), -1, "nobody");
    due(15, x.alike(0), 1, "nobody tells the two apart");
    due(15, x.alike(1), 1, "casks 0 and 1");
    due(16, x.fits(-1), 8, "all glasses, but not the one of nothing");
    due(16, x.fits(0), 0, "0 1 is the first");
    due(16, x.fits(1), 1, "0 1 is the first");
    due(17, x.in(0, 0), 3, "6 of 8");
    due(17, x.in(0, 1), 4, "6 of 8");
    due(18, x.sure(0), 0, "in all is none");
    due(18, x.sure(1), 0, "in none is none");
    due(19, x.tellsMost(0), -9, "nobody");
    due(19, x.tellsMost(1), -9, "nobody");
    due(20, x.drops(), 0, "nobody");
    due(22, x.team(), 0, "nobody");
    due(24, x.gone(0), 0, "of several the least");
    due(24, x.gone(1), 0, "by nobody");
    due(25, x.emptyOnes(), 3, "nobody can tell");
    due(27, x.adds(0, 0), 0, "nobody tells it from water");
    due(27, x.adds(0, 1), 1, "0 over 1");
    due(28, x.onions(20, 0), 1, "no two is told apart");
    due(28, x.onions(20, 1), 1, "no two is told apart");
  }

  private static void casksAloneReckoned() {
    x = new BuriedBySevens();
    twoCasks();
    due(33, x.sharper(), -9, "nobody");
    due(34, x.more(), -9, "all fit always");
    due(37, x.like(), 3, "nobody tells otherwise");
    due(38, x.duo(0), -9, "nobody");
    due(39, x.hidden(0), 4, "each down and up");
    due(39, x.hidden(1), 0, "cask 0 to 0");
    due(40, x.diluted(0), -1, "nobody");
    due(41, x.kinds(0), -1, "nobody");
    due(42, x.substitutes(0), 2, "the other one");
    due(43, x.exact(0), -1, "nobody");
    due(44, x.bluntest(0, 0, 1), -1, "nobody");
    due(48, x.blind(0, 0), -1, "nobody");
    due(49, x.loner(0), 0, "of several the least");
    due(49, x.loner(1), 0, "nobody tells");
    rowAll(9, 0);
    due(29, x.two(0), 0, "nobody tells");
    due(29, x.two(1), 0, "of no mark");
    // from 5 1222621274: 18655, a draw of 1; then -1178577239 without its sign 968906409: 14784, a draw of 0
    due(54, x.lots(1, 5, 0), 8, "all fit");
    due(54, x.lots(20, 5, 1), 0, "never just one");
  }

  // ---------------------------------------------------------------- an empty glass

  /** Tastes 3 6 9 12, nothing, 22 7 22 7; one by tens of mark 0, one sharp; no shares. */
  private static void noShares() {
    x = new BuriedBySevens();
    x.comes(0, 0, 1234);
    x.comes(4, 9, 9999);
    x.comes(1, 7, 5050);
    x.joins(1, 9, 0);
    x.joins(15, 0, 0);
  }

  private static void emptyGlass() {
    noShares();
    for (int m = 0; m < 4; m++) {
      due(12, x.taste(-1, m), 0, "0 of nothing");
      due(13, x.tells(1, -1, m), 0, "0 of nothing");
    }
    due(16, x.fits(-1), 2, "0 1 0 and 0 2 0: the glass of nothing is none of them");
    due(16, x.fits(0), 0, "0 1 0");
    due(16, x.fits(1), 1, "0 1 0");
    due(16, x.fits(2), 0, "0 1 0");
    due(16, x.fits(3), -9, "no fourth cask");
    due(17, x.in(0, 0), 0, "in none");
    due(17, x.in(0, 1), 1, "0 over 1");
    due(17, x.in(1, 0), 1, "in both");
    due(17, x.in(1, 1), 1, "in both");
    due(18, x.sure(0), 2, "the empty one");
    due(18, x.sure(1), 5, "the others");
    due(19, x.tellsMost(0), 1, "the sharp one");
    due(19, x.tellsMost(1), 2, "two");
    due(20, x.drops(), 2, "the sharp one");
    due(21, x.claim(0, 0), 1, "3 by tens is 0");
    due(21, x.claim(1, 0), 2, "the sharp one knows better");
    due(21, x.claim(1, 1), 0, "he can know that");
    due(24, x.gone(0), -9, "nothing is in");
    due(24, x.gone(1), -9, "nothing is in");
    due(25, x.emptyOnes(), 0, "no share is above 0");
    due(26, x.guess(1, 1, 99, 0), 1, "it is in all");
    due(26, x.guess(0, 99, 0, 0), 0, "0 is not more than 0");
  }

  private static void emptyGlassReckoned() {
    noShares();
    due(27, x.adds(0, 0), 4000000000000000003L, "its share is 0");
    due(42, x.substitutes(0), -3, "its share is 0");
    due(32, x.strongest(), -9, "nothing is in");
    due(33, x.sharper(), -9, "no fewer");
    due(34, x.more(), -9, "no fewer");
    due(37, x.like(), 2, "the empty one tastes as nothing");
    due(38, x.duo(0), 1, "the two");
    due(38, x.duo(1), 2, "two fit");
    due(39, x.hidden(0), 1, "there is nothing less than 0; one of the empty one nobody tells");
    due(39, x.hidden(1), 11, "cask 1 to 1");
    due(40, x.diluted(0), 0, "no water is needed");
    due(40, x.diluted(1), 0, "no water is needed");
    due(47, x.alikeGlasses(), 2, "0 1 0 and 0 2 0");
    rowAll(0, 9, 0);
    due(29, x.two(0), 0, "nine of the empty one");
    rowAll(0, 0, 0);
    due(29, x.two(1), 0, "the other is of nothing as well");
    rowAll(1, 0, 0);
    due(29, x.two(0), 2, "the sharp one tells");
    due(29, x.two(1), 15, "of all marks");
    rowAll(0, 0, 0, 0);
    due(30, x.impostor(1, 0), -9, "0 of all marks");
    due(45, x.closest(-1), 0, "0 1 0 is as near");
    due(45, x.closest(0), 0, "the glass of nothing is none of them");
    due(45, x.closest(1), 1, "0 1 0");
    due(52, x.judge(3), 1, "cask 0 tastes 12");
  }

  // ---------------------------------------------------------------- a full cellar

  /**
   * Seven casks and six tasters, each of whom tells one cask from cask 0 that the others do not:
   * 9 and 10 are told apart by tens alone, 9 and 7 by nines alone.
   */
  private static void fullCellar() {
    x = new BuriedBySevens();
    int[] marks = {6666, 7666, 5666, 6766, 6566, 6676, 6667};
    int[] tongues = {1, 1, 2, 2, 4, 8};
    int[] blunt = {9, 8, 9, 8, 9, 9};
    for (int c = 0; c < 7; c++) {
      due(6, x.comes(2, 0, marks[c]), c, "cask " + c);
    }
    for (int t = 0; t < 6; t++) {
      due(7, x.joins(tongues[t], blunt[t], 0), t, "taster " + t);
    }
    x.share(0, 1);
  }

  private static void fullCellarTold() {
    fullCellar();
    due(6, x.comes(0, 0, 0), -6, "seven there are");
    due(7, x.joins(1, 0, 0), -6, "six there are");
    due(57, x.count(0), 7, "seven");
    due(57, x.count(1), 6, "six");
    due(57, x.count(3), 170, "7 times 24, 4 times one more, 2 times one less");
    due(12, x.taste(1, 0), 10, "half of 21, cut");
    due(12, x.taste(2, 0), 7, "half of 15, cut");
    for (int t = 0; t < 6; t++) {
      for (int c = 1; c < 7; c++) {
        due(14, x.apart(t, 0, c), c == t + 1 ? 1 : 0, "taster " + t + ", casks 0 and " + c);
      }
      due(48, x.blind(t, 0), 15, "all twos without his cask");
      due(48, x.blind(t, 1), t == 0 ? 2 : 1, "the first without his cask");
    }
    due(15, x.alike(0), 0, "together they tell all");
    due(15, x.alike(1), -9, "together they tell all");
    due(22, x.team(), 63, "each is needed");
    due(20, x.drops(), 63, "without him his cask alone would fit too");
    due(28, x.onions(2, 0), 1, "none may have eaten");
    due(28, x.onions(2, 1), 64, "2 to the 6th");
    due(28, x.onions(20, 0), 47045881, "19 to the 6th");
    due(28, x.onions(20, 1), 64000000, "20 to the 6th");
    due(23, x.order(0, -1), -3, "more than 6 casks");
    due(23, x.order(0, 0), -3, "more than 6 casks");
    due(49, x.loner(0), 1, "cask 1, of several the least");
    due(49, x.loner(1), 11, "by its taster from 6, by the others from one each");
  }

  /**
   * Of marks 0 and 1 the glass is 9, neither 8 nor 10: casks 1 and 3 at least twice as often as
   * casks 2 and 4 (4 of 9 ways each), not one of casks 1, 3, 5, 6 alone; the others as they like.
   */
  private static void fullCellarFits() {
    fullCellar();
    due(16, x.fits(-1), 423, "4 times 4 times 27, less nothing, less four alone in two ways");
    int[] first = {0, 0, 0, 0, 0, 1, 1};
    for (int i = 0; i < 7; i++) {
      due(16, x.fits(i), first[i], "share " + i + " of the first");
    }
    due(16, x.fits(7), -9, "no eighth");
    due(17, x.in(0, 0), 32, "288 of 423");
    due(17, x.in(0, 1), 47, "288 of 423");
    due(18, x.sure(0), 0, "in all is none");
    due(18, x.sure(1), 0, "in none is none");
    due(19, x.tellsMost(0), 1, "by nines, of several the least");
    due(19, x.tellsMost(1), 971, "4 times 243, less nothing");
    due(38, x.duo(0), 13, "both by nines");
    due(38, x.duo(1), 431, "4 times 4 times 27, less nothing");
  }

  private static void fullCellarReckoned() {
    fullCellar();
    due(31, x.nearest(), 1, "1 apart, of several the first");
    due(50, x.twin(0), 1, "1 apart, of several the least");
    due(50, x.twin(2), 0, "2 apart");
    due(50, x.twin(6), 0, "1 apart");
    int[] ranks = {1, 3, 5, 6, 0, 2, 4};
    for (int i = 0; i < 7; i++) {
      due(46, x.rank(i), ranks[i], "rank " + i);
    }
    due(46, x.rank(7), -9, "no eighth");
    due(35, x.range(0), 3, "10 less 7");
    due(35, x.range(3), 1, "10 less 9");
    due(24, x.gone(0), 0, "the only one");
    due(24, x.gone(1), 2, "9 by nines is told");
    due(25, x.emptyOnes(), 0, "9 by nines is told");
    due(37, x.like(), 1, "cask 0 alone");
    due(39, x.hidden(0), 5, "one more of 0, 1, 3, 5, 6");
    due(39, x.hidden(1), 2, "cask 0 to 2");
    due(42, x.substitutes(0), 0, "each is told by one");
    int[] exact = {1, 5, 1, 5, 1, 1};
    for (int t = 0; t < 6; t++) {
      due(43, x.exact(t), exact[t], "exact " + t);
    }
    due(44, x.bluntest(0, 0, 1), 9, "9 and 10 by tens");
    due(44, x.bluntest(0, 0, 2), 8, "9 and 7 by nines");
    due(44, x.bluntest(5, 0, 1), -9, "9 and 9");
    due(41, x.kinds(0), 2, "10 of cask 1 alone, else 0");
    due(41, x.kinds(1), 2, "9 and 0");
    due(40, x.diluted(0), 0, "9 by tens");
    due(40, x.diluted(1), 1, "9 by 2 is 4");
    due(21, x.claim(0, 6), 1, "it may be");
    due(55, x.image(), 7, "seven");
    due(56, x.restore(), 7, "seven");
  }

  /** By nines of marks 0 and 1 told 0: casks 1 and 3 less than twice as often as casks 2 and 4 (5 of 9 ways). */
  private static void fullCellarWithoutShares() {
    fullCellar();
    x.share(0, 0);
    due(16, x.fits(-1), 675, "5 times 5 times 27");
    int[] first = {0, 0, 1, 0, 1, 0, 0};
    for (int i = 0; i < 7; i++) {
      due(16, x.fits(i), first[i], "share " + i + " of the first");
    }
    due(17, x.in(6, 0), 2, "two of three");
    due(17, x.in(6, 1), 3, "two of three");
    due(18, x.sure(0), 20, "casks 2 and 4");
    due(18, x.sure(1), 0, "in none is none");
    due(19, x.tellsMost(1), 1215, "5 times 243");
    due(20, x.drops(), 10, "those by nines");
    due(21, x.claim(0, 6), 1, "by tens all but cask 1 alone");
    due(21, x.claim(1, 2), 0, "by nines he can know that");
    due(21, x.claim(1, 1), 1, "beside cask 2");
    due(26, x.guess(6, 49, 98, 0), 0, "2 times 49 is not more than 98");
    due(26, x.guess(6, 50, 98, 0), 1, "2 times 50 is");
    x.mark(2, 0, 6);
    due(16, x.fits(-1), 0, "nothing is less than 9 of mark 0");
    due(16, x.fits(6), -9, "none fits");
    due(17, x.in(6, 0), 0, "0 over 1 of none");
    due(17, x.in(6, 1), 1, "0 over 1 of none");
    due(18, x.sure(0), 0, "none fits: 0 both");
    due(18, x.sure(1), 0, "none fits: 0 both");
    due(20, x.drops(), 2, "by him none fits");
    due(21, x.claim(1, 0), 2, "none fits");
    due(26, x.guess(6, 99, 0, 0), 0, "not more than 0");
    due(26, x.guess(6, 99, 0, 1), -9, "never");
  }

  /** Seven casks that taste 3 3 3 3, 9 shares each, six tasters who tell alike. */
  private static void sevenCasksAlike(int blunt) {
    x = new BuriedBySevens();
    for (int c = 0; c < 7; c++) {
      x.comes(0, c, 1111);
    }
    for (int t = 0; t < 6; t++) {
      x.joins(15, blunt, t);
    }
    for (int c = 0; c < 7; c++) {
      due(8, x.share(c, 9), 0, "nine shares of cask " + c);
    }
  }

  private static void sevenAlike() {
    sevenCasksAlike(0);
    due(57, x.count(2), 63, "all shares");
    due(12, x.taste(-1, 0), 3, "189 by 63");
    due(15, x.alike(0), 21, "all twos");
    due(15, x.alike(1), 1, "0 and 1");
    due(48, x.blind(5, 0), 21, "all twos");
    due(16, x.fits(-1), 2186, "all glasses");
    for (int i = 0; i < 7; i++) {
      due(16, x.fits(i), i == 6 ? 1 : 0, "0 0 0 0 0 0 1 is the first");
      due(17, x.in(i, 0), 729, "1458 of 2186");
      due(17, x.in(i, 1), 1093, "1458 of 2186");
      due(27, x.adds(i, 0), 6, "all six when it is first of seven");
      due(27, x.adds(i, 1), 7, "all six when it is first of seven");
    }
    due(18, x.sure(0), 0, "in all is none");
    due(18, x.sure(1), 0, "in none is none");
    due(19, x.tellsMost(0), 0, "of several the least");
    due(19, x.tellsMost(1), 2186, "all glasses");
    due(20, x.drops(), 0, "nobody is needed");
    due(22, x.team(), 0, "nobody is needed");
    due(24, x.gone(0), 0, "of several the least");
    due(24, x.gone(1), 0, "by nobody");
    due(25, x.emptyOnes(), 0, "162 by 63 is 2: told");
    due(26, x.guess(6, 49, 99, 0), 0, "49 times 729 is less than 99 times 364");
    due(26, x.guess(6, 50, 99, 0), 1, "50 times 729 is more");
    due(26, x.guess(6, 1, 99, 1), 50, "the least r");
  }

  private static void sevenAlikeReckoned() {
    sevenCasksAlike(0);
    due(31, x.nearest(), 1, "of several the first");
    due(32, x.strongest(), 0, "of several the least");
    due(33, x.sharper(), -9, "all are sharp");
    due(34, x.more(), -9, "9 at most");
    due(36, x.pour(3, 3), 1, "one of any");
    due(37, x.like(), 127, "all of them");
    due(38, x.duo(0), 1, "of several the first");
    due(38, x.duo(1), 2186, "all glasses");
    due(39, x.hidden(0), 7, "each down, none above 9");
    due(39, x.hidden(1), 8, "cask 0 to 8");
    due(41, x.kinds(5), 1, "one kind of glasses");
    due(42, x.substitutes(3), 119, "all others: 9 at most");
    due(43, x.exact(5), 28, "all marks of all casks");
    due(47, x.alikeGlasses(), 2186, "all glasses");
    due(49, x.loner(0), 0, "of several the least");
    due(49, x.loner(1), 0, "nobody tells");
    due(50, x.twin(0), 1, "of several the least");
    due(50, x.twin(6), 0, "of several the least");
    rowOfSame(7, 9);
    due(29, x.two(0), 0, "the same shares");
    rowOfSame(7, 0);
    due(29, x.two(0), 63, "a glass of nothing: everybody");
    due(29, x.two(1), 15, "of all marks");
    rowOfSame(4, 99);
    due(45, x.closest(-1), 384, "4 times 96");
    due(45, x.closest(6), 1, "the first");
    rowOfSame(8, 3);
    due(52, x.judge(2), -9, "the glass and seven casks");
    rowOfSame(9, 3);
    due(52, x.judge(2), 8, "no eighth cask");
  }

  private static void sevenAlikeBluntly() {
    sevenCasksAlike(9);
    due(25, x.emptyOnes(), 127, "by tens all is 0");
    due(27, x.adds(0, 0), 0, "nobody tells it from water");
    due(33, x.sharper(), -9, "sharp he tells all alike too");
    due(40, x.diluted(5), 0, "by tens all is 0");
    due(43, x.exact(0), 0, "3 by tens is not 3");
    x.kind(0, 4, 0);
    // 162 by 63 is 2: told by one who is sharp from 3, 1 and 0
    due(33, x.sharper(), 0, "of several the least");
  }

  /**
   * An OAK that tastes of its FIGURE alone and six empty ones, a share of each: told from water
   * among as many as the FIGURE. So it adds when it comes that early, and an empty one takes it
   * away when it is the one too many behind it.
   */
  private static void sevenComeIn() {
    x = new BuriedBySevens();
    for (int c = 0; c < 7; c++) {
      x.comes(c == 0 ? 1 : 4, 0, 0);
      x.share(c, 1);
    }
    x.joins(1, 0, 0);
    due(27, x.adds(0, 0), 0, "it tastes of nothing");
    due(27, x.adds(0, 1), 1, "it tastes of nothing");
    int[] parts = {0, 42, 21, 14, 21, 42, 7};
    int[] times = {0, 1, 1, 1, 2, 5, 1};
    for (int figure = 1; figure <= 6; figure++) {
      x.kind(0, 1, figure);
      due(27, x.adds(0, 0), figure, "one of the first " + figure + " of seven");
      due(27, x.adds(0, 1), 7, "one of the first " + figure + " of seven");
      due(27, x.adds(6, 0), -times[figure], "a seventh times " + figure + " sixths, away");
      due(27, x.adds(6, 1), parts[figure], "a seventh times " + figure + " sixths, away");
    }
    x.kind(0, 1, 7);
    due(27, x.adds(0, 0), 1, "wherever it comes");
    due(27, x.adds(0, 1), 1, "wherever it comes");
    due(27, x.adds(6, 0), 0, "none is too many");
    due(27, x.adds(6, 1), 1, "none is too many");
  }

  /** As many unlike tellings as a full cellar gives: too many for hands, so all glasses are mixed once more. */
  private static void kindsOfAllGlasses() {
    x = new BuriedBySevens();
    int[] marks = {9000, 900, 90, 9, 5500, 3355, 7777};
    for (int c = 0; c < 7; c++) {
      x.comes(3, c, marks[c]);
    }
    int[] tongues = {15, 15, 7, 10, 1, 8};
    int[] blunt = {0, 1, 0, 2, 0, 9};
    for (int t = 0; t < 6; t++) {
      x.joins(tongues[t], blunt[t], 0);
    }
    int[][] tastes = new int[7][4];
    for (int c = 0; c < 7; c++) {
      for (int m = 0; m < 4; m++) {
        tastes[c][m] = x.taste(c, m);
      }
    }
    for (int t = 0; t < 6; t++) {
      Set<List<Integer>> all = new HashSet<>();
      for (int glass = 1; glass < 2187; glass++) {
        all.add(tellingOf(glass, tastes, tongues[t], blunt[t] + 1));
      }
      due(41, x.kinds(t), all.size(), "taster " + t + " of 2186 glasses");
    }
  }

  private static List<Integer> tellingOf(int glass, int[][] tastes, int tongue, int step) {
    List<Integer> told = new ArrayList<>();
    for (int m = 0; m < 4; m++) {
      int sum = 0;
      int parts = 0;
      int rest = glass;
      for (int c = 0; c < 7; c++) {
        sum += rest % 3 * tastes[c][m];
        parts += rest % 3;
        rest /= 3;
      }
      told.add((tongue >> m) % 2 == 0 ? 0 : sum / parts / step * step);
    }
    return told;
  }

  private static void sixInOrder() {
    x = new BuriedBySevens();
    for (int c = 0; c < 6; c++) {
      x.comes(0, 0, (6 - c) * 1000);
    }
    x.joins(8, 9, 0);
    // all tastes together: 18 15 12 9 6 3: 5 times 3, 4 times 6, 3 times 9, 2 times 12, 15
    due(23, x.order(0, -1), 105, "six casks");
    for (int i = 0; i < 6; i++) {
      due(23, x.order(0, i), 5 - i, "the weakest first");
    }
    due(23, x.order(0, 6), -9, "no seventh");
  }

  // ---------------------------------------------------------------- tastes

  private static void greatestTastes() {
    x = new BuriedBySevens();
    int[] greatest = {27, 36, 13, 72, 0, 13};
    int[] least = {0, 9, 0, 18, 0, 0};
    for (int k = 0; k < 6; k++) {
      x.comes(k, 9, 9999);
    }
    for (int k = 0; k < 6; k++) {
      due(12, x.taste(k, 3), greatest[k], "the greatest of kind " + k);
    }
    due(35, x.range(3), 72, "the greatest less nothing");
    due(36, x.pour(3, 72), 1, "the greatest taste of a glass");
    due(36, x.pour(3, 73), -9, "beyond it");
    due(36, x.pour(3, 0), 1, "the empty one");
    for (int k = 0; k < 6; k++) {
      due(9, x.mark(k, 3, 0), 9, "the mark was 9");
      due(12, x.taste(k, 3), least[k], "of a mark of 0, kind " + k);
    }
    x.kind(4, 3, 9);
    due(12, x.taste(5, 0), 49, "99 by 2, cut");
    due(12, x.taste(5, 3), 9, "half of 18");
    x.kind(0, 5, 9);
    due(12, x.taste(0, 0), 27, "the first: as a CASK");
    x.kind(1, 5, 9);
    due(12, x.taste(1, 0), 27, "half of 27 and 27");
    due(12, x.taste(1, 3), 0, "half of nothing");
    x.mark(2, 0, 1);
    due(12, x.taste(2, 0), 1, "half of 3, cut");
    x.kind(2, 0, 9);
    due(12, x.taste(2, 0), 3, "a CASK's FIGURE is not tasted");
    x.kind(2, 3, 0);
    due(12, x.taste(2, 0), 6, "an OLD one of FIGURE 0");
    x.kind(2, 1, 0);
    due(12, x.taste(2, 0), 3, "an OAK of FIGURE 0");
  }

  private static void toldOnTheEdges() {
    x = new BuriedBySevens();
    x.comes(1, 9, 333);
    x.comes(1, 9, 0);
    x.comes(1, 1, 3333);
    x.comes(3, 9, 9999);
    x.joins(15, 9, 0);
    x.joins(15, 0, 0);
    x.joins(15, 8, 0);
    due(13, x.tells(0, 0, 0), 0, "9 by tens");
    due(13, x.tells(0, 0, 1), 10, "18 by tens");
    due(13, x.tells(0, 2, 0), 10, "10 by tens is no more than 10");
    due(13, x.tells(0, 3, 0), 70, "72 by tens");
    due(13, x.tells(1, 3, 0), 72, "just as it is");
    due(13, x.tells(2, 0, 0), 9, "9 by nines is no more than 9");
    due(13, x.tells(2, 3, 0), 72, "72 by nines");
    due(14, x.apart(0, 0, 1), 1, "9 and 9, but 18 and 9");
    due(14, x.apart(0, 1, 2), 1, "9 and 10 by tens");
    due(14, x.apart(2, 1, 2), 0, "9 and 10 by nines");
    x.share(0, 9);
    x.share(3, 9);
    due(12, x.taste(-1, 0), 40, "729 by 18, cut");
    x.share(3, 1);
    due(12, x.taste(-1, 0), 15, "153 by 10, cut");
  }

  // ---------------------------------------------------------------- letters

  private static void fullText() {
    x = new BuriedBySevens();
    String all = "c001234;".repeat(7) + "t1599;".repeat(6) + "s69;";
    for (int k = 0; k < 96; k++) {
      due(2, x.feed(all.charAt(k)), k + 1, "letter " + k);
    }
    due(2, x.feed(';'), -6, "96 there are");
    due(57, x.count(4), 96, "96 there are");
    due(3, x.cellar(), 14, "a full text that fills the cellar");
    due(57, x.count(4), 0, "no more then");
    due(4, x.cask(6, 6), 9, "the last statement");
    due(5, x.taster(5, 2), 9, "the last taster");
    due(2, x.feed('s'), 1, "there is room again");
    due(3, x.cellar(), -1001, "something lacks");
    due(3, told("s01;".repeat(24)), 24, "as many statements as can be told");
    due(3, told("m039;".repeat(19) + "m"), -1096, "the end of a full text");
    due(57, x.count(4), 0, "with a FAULT neither");
    due(3, told("s00;".repeat(23) + "s70;"), -2092, "the last statement");
    due(3, told("s00;".repeat(23) + "s00:"), -1095, "the last letter");
    due(3, told("s00;".repeat(23) + "s00;;"), 24, "a letter that was refused is no fault");
    due(57, x.count(16), 2, "two were refused");
  }

  private static void lettersOnTheEdges() {
    x = new BuriedBySevens();
    due(3, told("c000000;c599999;"), 2, "the least and the greatest cask");
    due(4, x.cask(0, 1), 0, "FIGURE 0");
    due(4, x.cask(1, 0), 5, "KIND 5");
    due(4, x.cask(1, 1), 9, "FIGURE 9");
    due(4, x.cask(1, 5), 9, "MARK 9");
    due(3, told("c600000;"), -2000, "KIND 6");
    due(3, told("c900000;"), -2000, "KIND 9");
    due(3, told("t0100;t1599;"), 2, "the least and the greatest taster");
    due(5, x.taster(0, 0), 1, "MARKS 1");
    due(5, x.taster(1, 0), 15, "MARKS 15");
    due(5, x.taster(1, 1), 9, "BLUNT 9");
    due(3, told("t0000;"), -2000, "MARKS 0");
    due(3, told("t1600;"), -2000, "MARKS 16");
    due(3, told("s19;s10;"), 2, "the last cask, the most and the least");
    due(4, x.cask(1, 6), 0, "SHARE 0");
    due(3, told("s20;"), -2000, "a cask behind the last");
    due(3, told("m130;m009;"), 2, "the last and the first mark");
    due(4, x.cask(1, 5), 0, "MARK 3 becomes 0");
    due(4, x.cask(0, 2), 9, "MARK 0 becomes 9");
    due(3, told("m140;"), -2000, "MARK 4");
    due(3, told("m200;"), -2000, "a cask behind the last");
    due(3, told("s20;c000000;"), -2000, "a cask that comes only behind");
    due(3, told("c000000;s25;"), 2, "a cask that came ahead");
    due(4, x.cask(2, 6), 5, "its SHARE");
    due(4, x.cask(2, 0), 0, "KIND 0");
  }

  private static void faultsOnTheEdges() {
    x = new BuriedBySevens();
    due(3, x.cellar(), -1000, "at least one STATEMENT");
    x.feed(0);
    due(3, x.cellar(), -1000, "letter 0");
    x.feed(255);
    due(3, x.cellar(), -1000, "letter 255");
    due(57, x.count(4), 0, "no more then");
    due(3, told("s00;t0000;x"), -1010, "kind 1 ahead of kind 2, wherever it is");
    due(3, told("c000000;s00;t0000;s99;"), -2012, "the first statement that is not as it must be");
    due(57, x.count(0), 0, "with one nothing comes");
    String[] lacking = {"c", "c0", "c01", "c012", "c0123", "c01234", "c012345", "s", "s0", "s00", "t", "t0", "t01",
        "t010", "t0101", "m", "m0", "m00", "m000"};
    for (String text : lacking) {
      due(3, told(text), -1000 - text.length(), "the end of " + text);
      due(3, told(text + "x"), -1000 - text.length(), "the letter behind " + text);
      due(3, told("s00;" + text), -1004 - text.length(), "the end of s00;" + text);
    }
    for (int what = 11; what <= 16; what++) {
      due(57, x.count(what), 0, "FAULTS are not counted");
    }
    x = new BuriedBySevens();
    due(3, told("c000000;".repeat(8)), -2056, "no room for an eighth");
    due(3, told("c000000;".repeat(7)), 7, "room for seven");
    due(3, told("s00;c000000;"), -2004, "no room for one");
    due(3, told("t0100;".repeat(7)), -2036, "no room for a seventh");
    due(3, told("t0100;".repeat(6)), 6, "room for six");
    due(3, told("s60;t0100;"), -2004, "no room for one");
    due(3, told("s69;"), 1, "the last of seven");
    due(3, told("s70;"), -2000, "there is no cask 7");
  }

  // ---------------------------------------------------------------- the row

  private static void fullRow() {
    x = new BuriedBySevens();
    for (int k = 1; k <= 12; k++) {
      due(51, x.row(99), k, "number " + k);
    }
    due(51, x.row(0), -6, "12 there are");
    due(57, x.count(5), 12, "12 there are");
    due(53, x.clear(), 12, "it had 12");
    due(53, x.clear(), 0, "it had none");
    due(51, x.row(0), 1, "there is room again");
    rowOfSame(12, 0);
    due(52, x.judge(0), 1, "the glass of nothing, and no cask 0");
    due(57, x.count(5), 0, "none then");
    for (int c = 0; c < 7; c++) {
      x.comes(4, 0, 0);
    }
    rowOfSame(12, 0);
    due(52, x.judge(3), 8, "the glass, seven casks, no eighth");
    rowOfSame(12, 0);
    x.row(0);
    due(52, x.judge(4), -1, "no such mark");
    due(57, x.count(5), 12, "it stays");
    due(29, x.two(0), -3, "12 numbers for seven casks");
    due(45, x.closest(-1), -3, "12 are not four");
    due(52, x.judge(-1), -1, "no such mark");
    due(53, x.clear(), 12, "it stays");
  }

  private static void rowOnTheEdges() {
    x = new BuriedBySevens();
    twoCasks();
    x.joins(7, 0, 0);
    rowAll(1);
    due(29, x.two(0), -3, "one number for two casks");
    rowAll(1, 1, 0);
    due(29, x.two(0), -3, "three numbers for two casks");
    rowAll(1, 1);
    due(29, x.two(0), 0, "one number for each");
    rowAll(9, 9);
    due(29, x.two(0), 0, "9 and 9 taste as 1 and 1");
    rowAll(9, 10);
    due(29, x.two(0), -3, "one above 9");
    due(57, x.count(5), 2, "it stays");
    rowAll(12, 6, 15);
    due(30, x.impostor(0, 0), -3, "three numbers");
    due(45, x.closest(0), -3, "three numbers");
    x.row(0);
    due(30, x.impostor(0, 0), -9, "four: all true");
    due(30, x.impostor(0, 1), -9, "0 is not named");
    due(45, x.closest(-1), 9, "1 1 is 12 6 15 9");
    x.row(0);
    due(30, x.impostor(0, 0), -3, "five numbers");
    due(45, x.closest(0), -3, "five numbers");
    rowAll(12, 6, 15, 99);
    due(30, x.impostor(0, 1), 3, "99 is");
    rowAll(12, 6, 99, 0);
    due(30, x.impostor(0, 0), 2, "99 is not 15");
    rowAll(12, 3, 22);
    due(52, x.judge(0), -9, "the glass and both");
    rowAll(12, 3, 22, 22);
    due(52, x.judge(0), 3, "no third cask");
    rowAll(0);
    due(52, x.judge(0), 0, "the glass is 12");
  }

  /** What stood in a row that was longer is no more there. */
  private static void rowAfterAFullOne() {
    x = new BuriedBySevens();
    twoCasks();
    x.joins(7, 0, 0);
    rowOfSame(12, 99);
    rowAll(1, 1);
    due(29, x.two(0), 0, "the same shares");
    due(29, x.two(1), 0, "the same shares");
    rowAll(12, 6, 15, 0);
    due(30, x.impostor(0, 0), -9, "all true");
    due(30, x.impostor(0, 1), -9, "none is named");
    due(45, x.closest(-1), 9, "1 1 is 12 6 15 9");
    rowAll(12, 3);
    due(52, x.judge(0), -9, "the glass and cask 0");
    due(52, x.judge(0), -9, "nothing more is said");
  }

  // ---------------------------------------------------------------- what is taken back, the image

  private static void mostTakenBack() {
    x = new BuriedBySevens();
    x.comes(0, 1, 1234);
    due(11, x.back(), -3, "none");
    for (int v = 1; v <= 8; v++) {
      x.share(0, v);
      due(57, x.count(6), v, "can be taken back");
    }
    for (int left = 7; left >= 0; left--) {
      due(11, x.back(), left, "8 at most");
      due(4, x.cask(0, 6), left, "the latest first");
    }
    due(11, x.back(), -3, "all eight are");
    for (int v = 1; v <= 9; v++) {
      x.share(0, v);
    }
    due(57, x.count(6), 8, "of nine the oldest no more");
    for (int left = 7; left >= 0; left--) {
      due(11, x.back(), left, "8 at most");
    }
    due(11, x.back(), -3, "the ninth can not");
    due(4, x.cask(0, 6), 1, "what the first of nine made");
    x.mark(0, 3, 9);
    x.kind(0, 5, 9);
    due(11, x.back(), 1, "the kind");
    due(4, x.cask(0, 0), 0, "KIND 0 again");
    due(4, x.cask(0, 1), 1, "FIGURE 1 again");
    x.share(0, 1);
    due(57, x.count(6), 2, "one anew counts on");
    due(11, x.back(), 1, "also if all stays as it was");
    due(11, x.back(), 0, "the mark");
    due(4, x.cask(0, 5), 4, "MARK 3 again");
    due(12, x.taste(0, 3), 12, "tastes of it again");
    due(10, x.kind(0, 0, 1), 1, "the kind that it has");
    due(9, x.mark(0, 0, 1), 1, "the mark that it has");
    due(57, x.count(6), 2, "also if all stays as it was");
  }

  /** Ten changes of all sorts of seven casks, each seen when it is taken back. */
  private static void tenUnlikeTakenBack() {
    x = new BuriedBySevens();
    for (int c = 0; c < 7; c++) {
      x.comes(1, 9, 1111);
    }
    int[] casks = {0, 1, 2, 3, 4, 5, 6, 0, 1, 3};
    int[] what = {6, 2, 6, 3, 0, 6, 4, 0, 5, 6};
    for (int k = 0; k < 10; k++) {
      if (what[k] == 6) {
        due(8, x.share(casks[k], 9), 0, "change " + k);
      } else if (what[k] == 0) {
        due(10, x.kind(casks[k], 3, 5), 19, "change " + k);
      } else {
        due(9, x.mark(casks[k], what[k] - 2, 7), 1, "change " + k);
      }
    }
    for (int k = 9; k >= 2; k--) {
      due(4, x.cask(casks[k], what[k]), what[k] == 6 ? 9 : what[k] == 0 ? 3 : 7, "as change " + k + " made it");
      due(11, x.back(), k - 2, "takes change " + k + " back");
      due(4, x.cask(casks[k], what[k]), what[k] == 6 ? 0 : 1, "as it was ahead of change " + k);
      due(4, x.cask(casks[k], 1), 9, "FIGURE 9 again");
    }
    due(11, x.back(), -3, "older ones no more");
    due(4, x.cask(0, 6), 9, "the first stays");
    due(4, x.cask(1, 2), 7, "the second stays");
    due(57, x.count(2), 9, "all others are as they were");
    due(57, x.count(3), 34, "all others are as they were");
  }

  private static void whatLeavesNone() {
    x = new BuriedBySevens();
    x.comes(0, 1, 1234);
    x.share(0, 1);
    due(56, x.restore(), -3, "refused: there is none");
    due(3, told("s09;x"), -1004, "a FAULT of kind 1");
    due(3, told("s19;"), -2000, "a FAULT of kind 2");
    due(3, x.cellar(), -1000, "no letters");
    due(6, x.comes(0, 10, 0), -6, "refused");
    due(7, x.joins(16, 0, 0), -6, "refused");
    due(57, x.count(6), 1, "these leave it");
    x.image();
    x.row(1);
    x.judge(0);
    x.clear();
    x.feed('s');
    due(57, x.count(6), 1, "so do an image, the row, a letter");
    due(3, told("00;"), 1, "a CELLAR");
    due(11, x.back(), -3, "leaves none");
    x.share(0, 2);
    x.comes(0, 0, 0);
    due(11, x.back(), -3, "nor one that comes");
    x.share(0, 3);
    x.joins(1, 0, 0);
    due(11, x.back(), -3, "nor one that joins");
    x.share(0, 4);
    due(56, x.restore(), 1, "restored");
    due(11, x.back(), -3, "nor that");
    due(4, x.cask(0, 6), 1, "as in the image");
  }

  private static void images() {
    x = new BuriedBySevens();
    due(55, x.image(), 0, "an image of nothing");
    x.joins(15, 9, 9);
    x.comes(3, 9, 9999);
    x.share(0, 9);
    due(56, x.restore(), 0, "nothing again");
    due(57, x.count(1), 0, "nobody again");
    due(12, x.taste(-1, 0), 0, "an empty glass again");
    due(6, x.comes(0, 0, 0), 0, "the first once more");
    due(4, x.cask(0, 6), 0, "without a share");
    due(7, x.joins(1, 0, 0), 0, "the first once more");
    due(56, x.restore(), 0, "as often as one likes");
    due(55, x.image(), 0, "as does the image");
    x.feed('c');
    x.row(7);
    x.cask(9, 9);
    due(56, x.restore(), 0, "restored");
    due(57, x.count(4), 1, "but letters");
    due(57, x.count(5), 1, "but the ROW");
    due(57, x.count(11), 1, "but REFUSALS");
    due(57, x.count(7), -9, "another what");
    due(57, x.count(10), -9, "another what");
    due(57, x.count(17), -9, "another what");
    due(57, x.count(-1), -9, "another what");
    due(57, x.count(15), 0, "no call refuses with -5");
    due(57, x.count(12), 0, "another what is not refused");
  }

  // ---------------------------------------------------------------- numbers on their edges

  private static void sharesOnTheEdges() {
    x = new BuriedBySevens();
    x.comes(0, 0, 1000);
    x.comes(0, 0, 2000);
    x.joins(1, 0, 0);
    due(8, x.share(0, 9), 0, "the most");
    due(8, x.share(0, 0), 9, "the least");
    due(39, x.hidden(0), 0, "one of either would be told from nothing");
    x.share(0, 8);
    due(39, x.hidden(0), 3, "7 and 9 of cask 0; one of cask 1 is 30 by 9, cut");
    due(39, x.hidden(1), 7, "down first");
    x.share(0, 9);
    due(39, x.hidden(0), 2, "8, and one of cask 1");
    due(39, x.hidden(1), 8, "down");
    x.share(1, 9);
    due(12, x.taste(-1, 0), 4, "81 by 18, cut");
    due(34, x.more(), -9, "9 at most");
    due(42, x.substitutes(0), 0, "9 of cask 1 alone are 6");
    x.share(0, 8);
    // 78 by 17 is 4 (1 1, 2 2, 2 1), 81 by 18 too
    due(34, x.more(), -9, "no fewer");
    due(36, x.pour(0, 3), 1, "one of cask 0");
    due(36, x.pour(0, 6), 1, "one of cask 1");
    due(36, x.pour(0, 4), 2, "one of each");
    due(36, x.pour(0, 5), 3, "one and two");
    due(36, x.pour(0, 7), -9, "beyond the greatest");
    due(36, x.pour(0, 2), -9, "beyond the least");
    due(36, x.pour(1, 0), 1, "of mark 1 both are 0");
  }

  private static void guessesOnTheEdges() {
    x = new BuriedBySevens();
    x.comes(0, 0, 1234);
    due(26, x.guess(0, 1, 99, 0), 1, "the only cask is in all");
    due(26, x.guess(0, 1, 99, 1), 1, "the least there is");
    x.comes(0, 0, 1234);
    // 6 of 8: 3 times r against w
    due(26, x.guess(0, 33, 99, 0), 0, "not more than 0");
    due(26, x.guess(0, 34, 99, 0), 1, "more than 0");
    due(26, x.guess(0, 1, 0, 0), 1, "r 1, w 0");
    due(26, x.guess(0, 99, 99, 0), 1, "r 99, w 99");
    due(26, x.guess(0, 1, 99, 1), 34, "the least r");
    x.joins(15, 0, 0);
    x.mark(1, 0, 9);
    x.share(0, 9);
    x.share(1, 9);
    due(16, x.fits(-1), 2, "1 1 and 2 2");
    x.share(1, 8);
    due(16, x.fits(-1), 0, "14 is of none");
    due(26, x.guess(0, 99, 0, 0), 0, "none fits");
    due(26, x.guess(0, 99, 0, 1), -9, "none fits");
    due(28, x.onions(2, 0), 1, "one of two odds");
    due(28, x.onions(2, 1), 2, "one of two odds");
    due(28, x.onions(20, 0), 19, "19 of 20");
    due(28, x.onions(20, 1), 20, "19 of 20");
    due(28, x.onions(1, 0), 4000000000000000004L, "below the odds");
    due(28, x.onions(21, 0), 4000000000000000006L, "above the odds");
  }

  private static void glassesOnTheEdges() {
    x = new BuriedBySevens();
    x.comes(3, 9, 9999);
    x.joins(1, 0, 0);
    x.joins(2, 9, 0);
    x.share(0, 1);
    due(40, x.diluted(0), 72, "72 by 73");
    due(40, x.diluted(1), 7, "72 by 8 is 9");
    x.kind(0, 3, 7);
    x.mark(0, 0, 1);
    // 20 in all of each share
    x.share(0, 4);
    due(40, x.diluted(0), 77, "80 by 81");
    x.share(0, 5);
    due(40, x.diluted(0), 96, "100 by 101");
    x.share(0, 6);
    due(40, x.diluted(0), -9, "120 by 105 is more than 0");
    due(31, x.nearest(), -9, "one cask");
    x.kind(0, 4, 0);
    due(35, x.range(0), 0, "of nothing too");
    due(41, x.kinds(0), 1, "0 alone");
    due(32, x.strongest(), 0, "something is in, though it tastes of nothing");
    x.share(0, 0);
    due(32, x.strongest(), -9, "nothing is in");
    x.back();
    x.back();
    due(50, x.twin(0), -9, "there is none");
    due(15, x.alike(0), 0, "no twos");
    due(23, x.order(1, -1), 0, "nothing behind it");
    due(46, x.rank(0), 0, "the only one");
    due(46, x.rank(1), -9, "no second");
    due(35, x.range(0), 0, "the greatest is the least");
    due(44, x.bluntest(0, 0, 0), -1, "one twice");
    due(14, x.apart(0, 0, 0), -1, "one twice");
    due(12, x.taste(-2, 0), -1, "below the glass");
    due(13, x.tells(0, -2, 0), -1, "below the glass");
    due(16, x.fits(-2), -4, "below how many");
    due(19, x.tellsMost(1), 2, "of mark 0 and of mark 1 one and two shares");
    due(24, x.gone(1), 2, "both");
    due(33, x.sharper(), -9, "no fewer");
  }

  // ---------------------------------------------------------------- draws

  /** Of the casks 3 6 9 12 and 22 7 22 7, told sharply: 1 2 and 2 1 are alone, all others two. */
  private static int fitting(int one, int other) {
    if (one + other == 0) {
      return 0;
    }
    return one + other == 3 ? 1 : 2;
  }

  private static void drawsThatWrap() {
    x = new BuriedBySevens();
    twoCasks();
    x.joins(15, 0, 0);
    int[] seeds = {0, 1, -1, 2, 5, 65535, 65536, 1 << 30, Integer.MAX_VALUE, Integer.MIN_VALUE, Integer.MIN_VALUE + 1, -12345};
    int[] glasses = {1, 2, 3, 7, 19, 20};
    int below = 0;
    int none = 0;
    for (int seed : seeds) {
      for (int n : glasses) {
        long z = seed & 0xffffffffL;
        int all = 0;
        int single = 0;
        for (int k = 0; k < n; k++) {
          int[] share = new int[2];
          for (int c = 0; c < 2; c++) {
            z = (z * 1103515245L + 12345L) & 0xffffffffL;
            below += z > Integer.MAX_VALUE ? 1 : 0;
            share[c] = (int) ((z & 0x7fffffffL) / 65536 % 3);
          }
          int fits = fitting(share[0], share[1]);
          none += fits == 0 ? 1 : 0;
          all += fits;
          single += fits == 1 ? 1 : 0;
        }
        due(54, x.lots(n, seed, 0), all, n + " glasses from " + seed);
        due(54, x.lots(n, seed, 1), single, "just one of " + n + " from " + seed);
      }
    }
    due(54, below > 100 ? 1 : 0, 1, "draws from numbers below 0");
    due(54, none > 10 ? 1 : 0, 1, "glasses of nothing among them");
  }

  // ---------------------------------------------------------------- the last call

  private static void lastCall() {
    x = new BuriedBySevens();
    x.comes(0, 0, 1234);
    for (int k = 1; k <= 510; k++) {
      due(8, x.share(0, k % 10), (k - 1) % 10, "call " + (k + 1));
    }
    due(11, x.back(), 7, "call 512 still answers");
  }
}
