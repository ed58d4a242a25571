/** What each promise of the document says, on small cellars counted out by hand. */
public final class PromiseTest {
  private static final int PROMISES = 57;
  private static final long NOBODY = 4000000000000000001L;
  private static final long OTHER = 4000000000000000002L;
  private static final long STATE = 4000000000000000003L;
  private static final long BELOW = 4000000000000000004L;
  private static final long ROOM = 4000000000000000006L;
  private static final int[] EDGES = {Integer.MIN_VALUE, -1000, -2, -1, 7, 1000, Integer.MAX_VALUE};

  private static final int[] asked = new int[PROMISES + 1];
  private static int wrong = 0;
  private static int promise = 0;
  private static BuriedBySevens x = null;

  public static void main(String[] args) {
    promises1to11();
    promises12to22();
    promises23to33();
    promises34to44();
    promises45to57();
    int all = 0;
    for (int p = 1; p <= PROMISES; p++) {
      all += asked[p];
      if (asked[p] == 0) {
        wrong++;
        System.out.println("promise " + p + " has no test");
      }
    }
    System.out.println(all + " answers asked for, " + wrong + " not as due");
    if (wrong != 0) {
      System.exit(1);
    }
  }

  // ---------------------------------------------------------------- helpers

  private static void due(long got, long want, String what) {
    asked[promise]++;
    if (got != want) {
      wrong++;
      System.out.println("promise " + promise + ": " + what + ": " + got + ", due is " + want);
    }
  }

  private static void start(int number) {
    promise = number;
    x = new BuriedBySevens();
  }

  /** Each call refused is counted once under its number, and nothing else changes. */
  private static void refused(int number, int times) {
    due(x.count(10 - number), times, "how many were refused with " + number);
  }

  private static void feedAll(String letters) {
    for (int i = 0; i < letters.length(); i++) {
      x.feed(letters.charAt(i));
    }
  }

  private static int told(String letters) {
    feedAll(letters);
    return x.cellar();
  }

  private static void rowAll(int... numbers) {
    x.clear();
    for (int v : numbers) {
      x.row(v);
    }
  }

  /** Tastes 3 6 9 12; 22 7 22 7; 13 12 10 9; 18 12 6 6; 0 0 0 0; 1 1 1 1: one cask of each kind. */
  private static void sixKinds() {
    x.comes(0, 5, 1234);
    x.comes(1, 7, 5050);
    x.comes(2, 8, 9876);
    x.comes(3, 3, 2100);
    x.comes(4, 9, 5555);
    x.comes(5, 6, 1111);
  }

  /** Cask 0 tastes 3 6 9 12, cask 1 22 7 22 7. */
  private static void twoCasks(int one, int other) {
    x.comes(0, 0, 1234);
    x.comes(1, 7, 5050);
    x.share(0, one);
    x.share(1, other);
  }

  private static String repeat(String what, int times) {
    return what.repeat(times);
  }

  // ---------------------------------------------------------------- 1 to 11

  private static void promises1to11() {
    newObject();
    feed();
    cellar();
    cellarFaults();
    caskAndTaster();
    comes();
    joins();
    share();
    mark();
    kind();
    back();
  }

  private static void newObject() {
    start(1);
    for (int what = 0; what <= 6; what++) {
      due(x.count(what), 0, "count(" + what + ") of a new object");
    }
    for (int what = 11; what <= 16; what++) {
      due(x.count(what), 0, "count(" + what + ") of a new object");
    }
    due(x.restore(), -3, "no image");
    due(x.back(), -3, "nothing to take back");
    due(x.cask(0, 0), -1, "no cask");
    due(x.taster(0, 0), -1, "no taster");
  }

  private static void feed() {
    start(2);
    due(x.feed('c'), 1, "the first letter");
    due(x.feed(0), 2, "the least letter");
    due(x.feed(255), 3, "the greatest letter");
    due(x.feed(-1), -4, "below the letters");
    due(x.feed(Integer.MIN_VALUE), -4, "far below the letters");
    due(x.feed(256), -6, "above the letters");
    due(x.feed(Integer.MAX_VALUE), -6, "far above the letters");
    due(x.count(4), 3, "a refused letter is not kept");
    for (int k = 4; k <= 96; k++) {
      due(x.feed(';'), k, "letter " + k);
    }
    due(x.feed(';'), -6, "letter 97");
    due(x.feed(-1), -4, "below is told ahead of no room");
    due(x.count(4), 96, "96 letters");
    refused(-4, 3);
    refused(-6, 3);
  }

  private static void cellar() {
    start(3);
    due(told("c175050;"), 1, "one cask");
    due(x.cask(0, 0), 1, "its kind");
    due(x.cask(0, 1), 7, "its figure");
    due(x.cask(0, 2), 5, "its mark 0");
    due(x.cask(0, 3), 0, "its mark 1");
    due(x.cask(0, 6), 0, "its share");
    due(x.count(4), 0, "the letters are no more");
    due(told("t0739;s09;m038;"), 3, "a taster, a share, a mark");
    due(x.taster(0, 0), 7, "marks of the taster");
    due(x.taster(0, 1), 3, "blunt");
    due(x.taster(0, 2), 9, "memory");
    due(x.cask(0, 6), 9, "the share told");
    due(x.cask(0, 5), 8, "the mark told");
    due(x.count(6), 0, "a cellar leaves nothing to take back");
    due(told("c001234;s11;m131;"), 3, "statements of a cask told ahead in the same text");
    due(x.cask(1, 6), 1, "its share");
    due(x.cask(1, 5), 1, "its mark");
    due(x.share(0, 5), 9, "share");
    due(told("s03;"), 1, "a share alone");
    due(x.count(6), 0, "leaves none either");
    start(3);
    due(told(repeat("c500000;", 7) + repeat("t1599;", 6)), 13, "as many as there can be");
    due(x.count(0), 7, "seven casks");
    due(x.count(1), 6, "six tasters");
    due(told("c500000;"), -2000, "no room for a cask");
    due(told("t1599;"), -2000, "no room for a taster");
    due(x.taste(6, 0), 0, "cousins all along");
    due(x.mark(0, 0, 9), 0, "a mark");
    due(x.taste(1, 0), 13, "a cousin tells of it");
  }

  private static void cellarFaults() {
    start(3);
    due(told(""), -1000, "no statement");
    due(told("x"), -1000, "no such statement");
    due(told(";"), -1000, "nothing ahead of ;");
    due(told("c"), -1001, "all lacks");
    due(told("c001234"), -1007, "the end lacks");
    due(told("c001234c"), -1007, "no ;");
    due(told("c0012345;"), -1007, "a digit too many");
    due(told("c00123;"), -1006, "a digit too few");
    due(told("c0x1234;"), -1002, "no digit");
    due(told("c001234;;"), -1008, "; twice");
    due(told("c001234;t15"), -1011, "the end, in the second");
    due(told("s0;"), -1002, "s too short");
    due(told("s000;"), -1003, "s too long");
    due(told("t150;"), -1004, "t too short");
    due(told("t15000;"), -1005, "t too long");
    due(told("m00;"), -1003, "m too short");
    due(told("m0000;"), -1004, "m too long");
    due(told("C001234;"), -1000, "a great letter");
    due(told("c00123/;"), -1006, "the sign ahead of 0");
    due(told("c00123:;"), -1006, "the sign behind 9");
    due(told("s90;x"), -1004, "kind 1 ahead of kind 2");
    due(told("c601234;"), -2000, "no such kind");
    due(told("c591234;"), 1, "the last kind");
    due(told("s10;"), -2000, "no such cask");
    due(told("s09;s10;"), -2004, "in the second statement");
    due(x.cask(0, 6), 0, "with a fault nothing comes");
    due(told("t0000;"), -2000, "a taster of no marks");
    due(told("t1600;"), -2000, "of marks above 15");
    due(told("t9900;"), -2000, "of marks far above 15");
    due(told("t0100;t1500;"), 2, "the least and the most marks");
    due(told("m040;"), -2000, "no such mark");
    due(told("m100;"), -2000, "no such cask to mark");
    due(told("m039;"), 1, "the last mark");
    due(x.share(0, 4), 0, "a share");
    due(told("c601234;"), -2000, "a fault");
    due(x.count(6), 1, "leaves what can be taken back");
    due(told(repeat("c001234;", 7)), -2048, "no room for the eighth cask");
    due(x.count(0), 1, "none of them came");
    due(told(repeat("t0100;", 5)), -2024, "no room for the seventh taster");
    due(x.count(1), 2, "none of them joined");
    due(told(repeat("c001234;", 11) + "s09;c000"), -1096, "the end of 96 letters");
    for (int number = -1; number >= -6; number--) {
      refused(number, 0);
    }
  }

  private static void caskAndTaster() {
    start(4);
    x.comes(3, 4, 5678);
    x.comes(5, 1, 12);
    x.share(0, 9);
    int[] first = {3, 4, 5, 6, 7, 8, 9};
    int[] second = {5, 1, 0, 0, 1, 2, 0};
    for (int what = 0; what <= 6; what++) {
      due(x.cask(0, what), first[what], "cask(0, " + what + ")");
      due(x.cask(1, what), second[what], "cask(1, " + what + ")");
    }
    due(x.cask(2, 0), -1, "no such cask");
    due(x.cask(-1, 7), -1, "nobody is told ahead of what");
    due(x.cask(0, 7), -2, "no such what");
    due(x.cask(0, -1), -2, "no what below 0");
    refused(-1, 2);
    refused(-2, 2);

    start(5);
    x.joins(11, 5, 7);
    x.joins(1, 0, 0);
    due(x.taster(0, 0), 11, "marks");
    due(x.taster(0, 1), 5, "blunt");
    due(x.taster(0, 2), 7, "memory");
    due(x.taster(1, 0), 1, "marks of the second");
    due(x.taster(2, 0), -1, "no such taster");
    due(x.taster(-1, 3), -1, "nobody is told ahead of what");
    due(x.taster(0, 3), -2, "no such what");
    due(x.taster(0, -1), -2, "no what below 0");
    refused(-1, 2);
    refused(-2, 2);
  }

  private static void comes() {
    start(6);
    due(x.comes(0, 0, 0), 0, "the least numbers");
    due(x.comes(5, 9, 9999), 1, "the greatest numbers");
    due(x.comes(2, 3, 7), 2, "marks with zeros ahead");
    due(x.cask(2, 2), 0, "mark 0");
    due(x.cask(2, 5), 7, "mark 3");
    due(x.cask(2, 6), 0, "no share at first");
    due(x.comes(6, -1, -1), -2, "no such kind, ahead of below");
    due(x.comes(-1, 0, 0), -2, "no kind below 0");
    due(x.comes(0, -1, 10000), -4, "figure below, ahead of above");
    due(x.comes(0, 10, -1), -4, "marks below, ahead of above");
    due(x.comes(0, 10, 0), -6, "figure above");
    due(x.comes(0, 0, 10000), -6, "marks above");
    due(x.count(0), 3, "none of these came");
    x.share(0, 1);
    due(x.comes(0, 0, 10000), -6, "refused");
    due(x.count(6), 1, "a refused one leaves what can be taken back");
    for (int k = 3; k < 7; k++) {
      due(x.comes(1, 1, 1111), k, "cask " + k);
      due(x.count(6), 0, "nothing can be taken back");
    }
    due(x.comes(1, 1, 1111), -6, "no room");
    due(x.comes(1, -1, 1111), -4, "below ahead of no room");
    due(x.comes(9, 1, 1111), -2, "kind ahead of no room");
    due(x.count(0), 7, "seven");
    refused(-2, 3);
    refused(-4, 3);
    refused(-6, 4);
  }

  private static void joins() {
    start(7);
    x.comes(0, 0, 0);
    x.share(0, 1);
    due(x.joins(0, 10, 0), -4, "no marks, ahead of above");
    due(x.joins(1, -1, 0), -4, "blunt below");
    due(x.joins(16, 0, -1), -4, "memory below, ahead of above");
    due(x.joins(16, 0, 0), -6, "marks above");
    due(x.joins(1, 10, 0), -6, "blunt above");
    due(x.joins(1, 0, 10), -6, "memory above");
    due(x.count(6), 1, "a refused one leaves what can be taken back");
    due(x.joins(1, 0, 0), 0, "the least");
    due(x.count(6), 0, "nothing can be taken back");
    due(x.joins(15, 9, 9), 1, "the greatest");
    for (int k = 2; k < 6; k++) {
      due(x.joins(3, 2, 1), k, "taster " + k);
    }
    due(x.joins(3, 2, 1), -6, "no room");
    due(x.joins(0, 2, 1), -4, "below ahead of no room");
    due(x.count(1), 6, "six");
    refused(-4, 4);
    refused(-6, 4);
  }

  private static void share() {
    start(8);
    due(x.share(0, 1), -1, "no such cask");
    x.comes(0, 0, 1234);
    due(x.share(0, 9), 0, "was nothing");
    due(x.share(0, 0), 9, "was 9");
    due(x.share(0, 5), 0, "was 0");
    due(x.share(0, -1), -4, "below");
    due(x.share(0, 10), -6, "above");
    due(x.share(1, -1), -1, "nobody ahead of below");
    due(x.share(-1, 10), -1, "nobody below 0");
    due(x.cask(0, 6), 5, "refused ones change nothing");
    due(x.count(6), 3, "nor can they be taken back");
    refused(-1, 3);
    refused(-4, 1);
    refused(-6, 1);
  }

  private static void mark() {
    start(9);
    x.comes(0, 0, 1234);
    due(x.mark(0, 0, 9), 1, "was 1");
    due(x.mark(0, 3, 0), 4, "was 4");
    due(x.taste(0, 0), 27, "tastes so");
    due(x.taste(0, 3), 0, "tastes of nothing");
    due(x.mark(1, 0, -1), -1, "nobody ahead of below");
    due(x.mark(-1, 0, 1), -1, "nobody below 0");
    due(x.mark(0, 4, 10), -1, "no such mark");
    due(x.mark(0, -1, 1), -1, "no mark below 0");
    due(x.mark(0, 0, -1), -4, "below");
    due(x.mark(0, 0, 10), -6, "above");
    due(x.cask(0, 2), 9, "refused ones change nothing");
    due(x.count(6), 2, "nor can they be taken back");
    refused(-1, 4);
    refused(-4, 1);
    refused(-6, 1);
  }

  private static void kind() {
    start(10);
    x.comes(1, 7, 5050);
    due(x.kind(0, 3, 9), 17, "was an oak of 7");
    due(x.taste(0, 0), 48, "twice an oak's");
    due(x.kind(0, 5, 0), 39, "was old of 9");
    due(x.kind(0, 0, 2), 50, "was a cousin of 0");
    due(x.cask(0, 0), 0, "kind");
    due(x.cask(0, 1), 2, "figure");
    due(x.kind(1, 9, -1), -1, "nobody first");
    due(x.kind(0, 6, -1), -2, "kind ahead of below");
    due(x.kind(0, -1, 0), -2, "no kind below 0");
    due(x.kind(0, 0, -1), -4, "below");
    due(x.kind(0, 0, 10), -6, "above");
    due(x.cask(0, 1), 2, "refused ones change nothing");
    due(x.count(6), 3, "nor can they be taken back");
    refused(-1, 1);
    refused(-2, 2);
    refused(-4, 1);
    refused(-6, 1);
  }

  private static void back() {
    start(11);
    due(x.back(), -3, "nothing");
    x.comes(1, 7, 5050);
    x.share(0, 4);
    x.mark(0, 1, 6);
    x.kind(0, 3, 8);
    due(x.taste(0, 1), 52, "as changed");
    due(x.back(), 2, "kind and figure");
    due(x.cask(0, 0), 1, "kind");
    due(x.cask(0, 1), 7, "figure");
    due(x.taste(0, 1), 25, "as an oak");
    due(x.back(), 1, "the mark");
    due(x.taste(0, 1), 7, "as at first");
    due(x.back(), 0, "the share");
    due(x.cask(0, 6), 0, "no share");
    due(x.back(), -3, "no more");
    x.share(0, 0);
    due(x.count(6), 1, "also if all stays as it was");
    due(x.back(), 0, "taken back");
    for (int v = 1; v <= 9; v++) {
      x.share(0, v);
    }
    due(x.count(6), 8, "8 at most");
    for (int left = 7; left >= 0; left--) {
      due(x.back(), left, "how many can still be");
      due(x.cask(0, 6), left + 1, "share before");
    }
    due(x.back(), -3, "the oldest no more");
    due(x.cask(0, 6), 1, "stays as it is");
    x.comes(4, 6, 1111);
    x.kind(1, 5, 0);
    int[] casks = {1, 0, 1, 0, 1, 0, 1, 0};
    int[] before = {0, 0, 1, 1, 1, 9, 5, 0};
    for (int k = 0; k < 8; k++) {
      int was = k % 3 == 0 ? x.share(casks[k], 5) : x.mark(casks[k], k % 4, 9);
      due(was, before[k], "change " + k);
    }
    due(x.count(6), 8, "the kind's change is forgotten");
    for (int k = 7; k >= 0; k--) {
      due(x.back(), k, "take back " + k);
      due(x.cask(casks[k], k % 3 == 0 ? 6 : 2 + k % 4), before[k], "what was changed by " + k);
    }
    due(x.cask(1, 0), 5, "the kind stays");
    x.kind(1, 0, 9);
    x.back();
    due(x.cask(1, 0), 5, "a cousin again");
    due(x.cask(1, 1), 0, "of figure 0");
    x.comes(0, 0, 0);
    x.image();
    x.share(0, 2);
    due(x.count(6), 1, "an image leaves it");
    x.restore();
    due(x.back(), -3, "a restored image leaves none");
    refused(-3, 4);
  }

  // ---------------------------------------------------------------- 12 to 22

  private static void promises12to22() {
    taste();
    tells();
    apart();
    alike();
    fits();
    in();
    sure();
    tellsMost();
    drops();
    claim();
    team();
  }

  private static void taste() {
    start(12);
    due(x.taste(-1, 0), 0, "a glass of nothing");
    sixKinds();
    int[][] tastes = {{3, 6, 9, 12}, {22, 7, 22, 7}, {13, 12, 10, 9}, {18, 12, 6, 6}, {0, 0, 0, 0}, {1, 1, 1, 1}};
    for (int c = 0; c < 6; c++) {
      for (int m = 0; m < 4; m++) {
        due(x.taste(c, m), tastes[c][m], "taste(" + c + ", " + m + ")");
      }
    }
    x.share(0, 1);
    x.share(1, 2);
    x.share(3, 3);
    due(x.taste(-1, 0), 16, "101 by 6");
    due(x.taste(-1, 1), 9, "56 by 6");
    due(x.taste(-1, 2), 11, "71 by 6");
    due(x.taste(-1, 3), 7, "44 by 6");
    x.kind(4, 3, 9);
    due(x.taste(5, 0), 25, "a cousin of what is ahead now: (3 + 48) by 2");
    for (int bad : EDGES) {
      due(x.taste(0, bad), -1, "no such mark");
      due(x.taste(bad == -1 ? -2 : bad, 0), -1, "no such cask");
    }
    due(x.taste(6, 0), -1, "no cask 6");
    due(x.taste(0, 4), -1, "no mark 4");
    refused(-1, 16);
    start(12);
    x.comes(5, 9, 1234);
    x.comes(5, 9, 1235);
    due(x.taste(0, 0), 3, "a cousin that is the first: as a cask");
    due(x.taste(1, 3), 13, "a cousin's cousin: (15 + 12) by 2");
    x.comes(3, 9, 9999);
    due(x.taste(2, 0), 72, "the greatest taste");
  }

  private static void tells() {
    start(13);
    sixKinds();
    x.joins(5, 4, 0);
    x.joins(2, 0, 0);
    x.share(0, 1);
    x.share(1, 1);
    due(x.tells(0, 1, 0), 20, "22 by fives");
    due(x.tells(0, 0, 2), 5, "9 by fives");
    due(x.tells(0, 2, 2), 10, "10 by fives");
    due(x.tells(0, 1, 1), -9, "a mark that he does not taste");
    due(x.tells(0, 1, 3), -9, "another");
    due(x.tells(0, -1, 0), 10, "the glass's 12 by fives");
    due(x.tells(0, -1, 2), 15, "the glass's 15 by fives");
    due(x.tells(1, -1, 1), 6, "just as it is");
    due(x.tells(2, 0, 0), -1, "no such taster");
    due(x.tells(-1, 0, 0), -1, "no taster below 0");
    due(x.tells(0, 6, 0), -1, "no such cask");
    due(x.tells(0, -2, 0), -1, "no cask below the glass");
    due(x.tells(0, 0, 4), -1, "no such mark");
    due(x.tells(0, 0, -1), -1, "no mark below 0");
    refused(-1, 6);
  }

  private static void apart() {
    start(14);
    sixKinds();
    x.joins(2, 0, 0);
    x.joins(2, 1, 0);
    x.joins(10, 1, 0);
    due(x.apart(0, 0, 1), 1, "6 and 7");
    due(x.apart(0, 1, 0), 1, "7 and 6");
    due(x.apart(1, 0, 1), 0, "by twos 6 and 6");
    due(x.apart(2, 0, 1), 1, "of the other mark 12 and 6");
    due(x.apart(0, 2, 3), 0, "12 and 12");
    due(x.apart(1, 4, 5), 0, "0 and 1 by twos");
    due(x.apart(0, 1, 1), -1, "one twice");
    due(x.apart(3, 0, 1), -1, "no such taster");
    due(x.apart(-1, 0, 1), -1, "no taster below 0");
    due(x.apart(0, 6, 1), -1, "no such cask");
    due(x.apart(0, -1, 1), -1, "the glass is no cask");
    due(x.apart(0, 0, 6), -1, "no such other");
    due(x.apart(0, 0, -1), -1, "nor is it the other");
    refused(-1, 7);
  }

  private static void alike() {
    start(15);
    due(x.alike(0), 0, "no casks");
    due(x.alike(1), -9, "no casks");
    sixKinds();
    due(x.alike(0), 15, "nobody tells anything");
    due(x.alike(1), 1, "0 and 1 first");
    x.joins(2, 0, 0);
    due(x.alike(0), 1, "of mark 1 only 12 and 12");
    due(x.alike(1), 23, "casks 2 and 3");
    x.joins(1, 0, 0);
    due(x.alike(0), 0, "of mark 0 these are apart");
    due(x.alike(1), -9, "none");
    due(x.alike(2), -2, "no such what");
    due(x.alike(-1), -2, "no what below 0");
    refused(-2, 2);
  }

  private static void fits() {
    start(16);
    due(x.fits(-1), 0, "no casks, no glass");
    due(x.fits(0), -9, "none");
    twoCasks(1, 0);
    due(x.fits(-1), 8, "without tasters all fit");
    due(x.fits(0), 0, "the first is 0 1");
    due(x.fits(1), 1, "the first is 0 1");
    x.joins(1, 9, 0);
    due(x.fits(-1), 3, "by tens 0: 1 0, 2 0, 2 1");
    due(x.fits(0), 1, "1 0");
    due(x.fits(1), 0, "1 0");
    due(x.fits(2), -9, "no third cask");
    due(x.fits(-2), -4, "below");
    due(x.fits(Integer.MAX_VALUE), -9, "far above");
    x.joins(1, 0, 0);
    due(x.fits(-1), 2, "just 3: 1 0, 2 0");
    x.share(0, 4);
    x.share(1, 1);
    due(x.fits(-1), 0, "6 and 0 by tens: nobody");
    due(x.fits(0), -9, "none fits");
    x.share(0, 9);
    x.share(1, 9);
    due(x.fits(-1), 2, "as 1 1, 2 2");
    due(x.fits(0), 1, "1 1");
    refused(-4, 1);
  }

  private static void in() {
    start(17);
    due(x.in(0, 0), NOBODY, "no cask");
    twoCasks(1, 0);
    due(x.in(0, 0), 3, "without tasters 6 of 8");
    due(x.in(0, 1), 4, "without tasters 6 of 8");
    x.joins(1, 9, 0);
    due(x.in(0, 0), 1, "in all three");
    due(x.in(0, 1), 1, "in all three");
    due(x.in(1, 0), 1, "in one of three");
    due(x.in(1, 1), 3, "in one of three");
    x.joins(1, 0, 0);
    due(x.in(1, 0), 0, "in none");
    due(x.in(1, 1), 1, "0 over 1");
    x.share(0, 4);
    x.share(1, 1);
    due(x.in(0, 0), 0, "none fits");
    due(x.in(0, 1), 1, "0 over 1");
    due(x.in(2, 2), NOBODY, "nobody ahead of other");
    due(x.in(-1, 0), NOBODY, "the glass is no cask");
    due(x.in(0, 2), OTHER, "no such part");
    due(x.in(0, -1), OTHER, "no part below 0");
    refused(-1, 3);
    refused(-2, 2);
  }

  private static void sure() {
    start(18);
    due(x.sure(0), 0, "no casks");
    due(x.sure(1), 0, "no casks");
    twoCasks(1, 0);
    due(x.sure(0), 0, "all fit");
    due(x.sure(1), 0, "all fit");
    x.joins(1, 9, 0);
    due(x.sure(0), 1, "cask 0 is in all");
    due(x.sure(1), 0, "cask 1 is in some");
    x.joins(1, 0, 0);
    due(x.sure(0), 1, "cask 0 is in all");
    due(x.sure(1), 2, "cask 1 is in none");
    x.share(0, 4);
    x.share(1, 1);
    due(x.sure(0), 0, "none fits");
    due(x.sure(1), 0, "none fits");
    x.share(0, 2);
    due(x.sure(0), 3, "9 is of 2 1 alone");
    due(x.sure(1), 0, "both are in it");
    due(x.sure(2), -2, "no such what");
    due(x.sure(-1), -2, "no what below 0");
    refused(-2, 2);
  }

  private static void tellsMost() {
    start(19);
    due(x.tellsMost(0), -9, "no tasters");
    due(x.tellsMost(1), -9, "no tasters");
    x.joins(1, 9, 0);
    due(x.tellsMost(0), 0, "no casks, yet a taster");
    due(x.tellsMost(1), 0, "no glass");
    twoCasks(1, 0);
    due(x.tellsMost(0), 0, "alone");
    due(x.tellsMost(1), 3, "three fit");
    x.joins(1, 0, 0);
    x.joins(1, 0, 9);
    due(x.tellsMost(0), 1, "the sharper one, the least of two");
    due(x.tellsMost(1), 2, "two fit");
    due(x.tellsMost(2), -2, "no such what");
    due(x.tellsMost(-1), -2, "no what below 0");
    refused(-2, 2);
  }

  private static void drops() {
    start(20);
    due(x.drops(), 0, "nobody");
    twoCasks(1, 0);
    due(x.drops(), 0, "nobody");
    x.joins(1, 9, 0);
    due(x.drops(), 1, "the one");
    x.joins(1, 0, 0);
    x.joins(1, 0, 0);
    due(x.drops(), 2, "the sharp one, the least of two");
    start(20);
    // tastes 3 0 and 0 3: each mark alone leaves glasses that the other parts
    x.comes(0, 0, 1000);
    x.comes(0, 0, 100);
    x.comes(0, 0, 0);
    x.share(0, 1);
    x.joins(8, 0, 0);
    x.joins(2, 0, 0);
    x.joins(1, 0, 0);
    // of mark 0 just 3: 1 0 0 and 2 0 0, in which marks 1 and 3 can be nothing only
    due(x.drops(), 4, "mark 0 alone");
    x.share(0, 0);
    x.share(2, 1);
    // of marks 0 and 1 nothing: neither of the first two, or so little that it is cut
    due(x.drops(), 6, "both marks");
  }

  private static void claim() {
    start(21);
    twoCasks(1, 0);
    x.joins(1, 9, 0);
    x.joins(1, 0, 0);
    x.joins(8, 0, 0);
    due(x.claim(0, 0), 0, "in all three that he tells so");
    due(x.claim(0, 1), 1, "in one of three");
    due(x.claim(1, 1), 2, "in none of two");
    due(x.claim(1, 0), 0, "in both");
    x.share(0, 4);
    x.share(1, 1);
    due(x.claim(1, 0), 2, "none fits");
    due(x.claim(0, 0), 0, "to the blunt one still 0");
    due(x.claim(3, 0), -1, "no such taster");
    due(x.claim(-1, 0), -1, "no taster below 0");
    due(x.claim(0, 2), -1, "no such cask");
    due(x.claim(0, -1), -1, "the glass is no cask");
    refused(-1, 4);
  }

  private static void team() {
    start(22);
    due(x.team(), 0, "nobody");
    sixKinds();
    due(x.team(), 0, "nobody");
    x.joins(2, 9, 0);
    x.joins(2, 0, 0);
    x.joins(2, 0, 0);
    due(x.team(), 2, "mark 1 sharp, the least of two");
    x.joins(1, 9, 0);
    due(x.team(), 2, "by tens of mark 0 13 and 18 are no more apart than 12 and 12 of mark 1");
    x.joins(1, 0, 0);
    due(x.team(), 16, "the sharp one of mark 0 parts all by himself");
    start(22);
    x.comes(0, 0, 1000);
    x.comes(0, 0, 100);
    x.comes(0, 0, 10);
    x.joins(1, 0, 0);
    x.joins(2, 0, 0);
    x.joins(4, 0, 0);
    due(x.team(), 3, "two marks part three casks");
  }

  // ---------------------------------------------------------------- 23 to 33

  private static void promises23to33() {
    order();
    gone();
    emptyOnes();
    guess();
    adds();
    onions();
    two();
    impostor();
    nearestAndStrongest();
    sharper();
  }

  private static void order() {
    start(23);
    x.joins(1, 0, 0);
    due(x.order(0, -1), 0, "no casks");
    due(x.order(0, 0), -9, "no casks");
    x.joins(1, 0, 9);
    x.image();
    x.comes(0, 0, 1234);
    due(x.order(0, -1), 0, "one cask");
    due(x.order(0, 0), 0, "one cask");
    due(x.order(0, 1), -9, "no second");
    x.comes(1, 7, 5050);
    due(x.order(0, -1), 30, "as they come");
    due(x.order(0, 0), 0, "as they come");
    due(x.order(0, 1), 1, "as they come");
    x.restore();
    // all tastes together: 30, 58, 44
    x.comes(0, 0, 1234);
    x.comes(1, 7, 5050);
    x.comes(2, 0, 9876);
    due(x.order(0, -1), 104, "2 times 30, 44");
    due(x.order(0, 0), 0, "the weakest first");
    due(x.order(0, 1), 2, "then the next");
    due(x.order(0, 2), 1, "the strongest last");
    due(x.order(0, 3), -9, "no fourth");
    due(x.order(1, -1), 95, "9 less of the second, the last 0 at least");
    x.comes(4, 0, 0);
    x.comes(4, 0, 0);
    due(x.order(0, 0), 3, "of two alike the first");
    due(x.order(0, 1), 4, "then the other");
    due(x.order(2, -1), -1, "no such taster");
    due(x.order(-1, -2), -1, "nobody ahead of below");
    due(x.order(0, -2), -4, "below");
    x.comes(4, 0, 0);
    due(x.order(0, -1), 104, "six casks");
    x.comes(4, 0, 0);
    due(x.order(0, -1), -3, "seven casks");
    due(x.order(0, -2), -4, "below ahead of that");
    refused(-1, 2);
    refused(-3, 1);
    refused(-4, 2);
    start(23);
    // 0 3: what is remembered makes orders alike, the first one is told
    x.joins(1, 0, 9);
    x.comes(0, 0, 1000);
    x.comes(0, 0, 1000);
    x.comes(0, 0, 0);
    due(x.order(0, -1), 0, "0 first, the others remembered");
    due(x.order(0, 0), 2, "0 first");
    due(x.order(0, 1), 0, "of several the first");
  }

  private static void gone() {
    start(24);
    due(x.gone(0), -9, "no casks");
    twoCasks(0, 0);
    x.joins(2, 0, 0);
    due(x.gone(0), -9, "no shares");
    due(x.gone(1), -9, "no shares");
    x.share(0, 1);
    x.share(1, 1);
    due(x.gone(0), 1, "of mark 1 6 stays 6 without cask 1");
    due(x.gone(1), 0, "nobody");
    x.joins(8, 0, 0);
    x.joins(8, 2, 0);
    // of mark 3: 9 of both; 7 without 0, 12 without 1
    due(x.gone(0), 1, "two tell of 1, three of 0");
    due(x.gone(1), 2, "two");
    x.share(1, 0);
    due(x.gone(0), 0, "the only one");
    due(x.gone(1), 3, "all tell it from nothing");
    x.comes(4, 0, 0);
    x.comes(4, 0, 0);
    x.share(0, 0);
    x.share(2, 1);
    x.share(3, 1);
    due(x.gone(0), 2, "of several the least");
    due(x.gone(1), 0, "nobody");
    due(x.gone(2), -2, "no such what");
    due(x.gone(-1), -2, "no what below 0");
    refused(-2, 2);
  }

  private static void emptyOnes() {
    start(25);
    due(x.emptyOnes(), 0, "no casks");
    x.comes(0, 0, 1234);
    x.comes(4, 0, 9999);
    x.comes(0, 0, 0);
    x.comes(0, 0, 9999);
    x.joins(15, 9, 0);
    due(x.emptyOnes(), 0, "no shares");
    x.share(0, 1);
    x.share(1, 1);
    due(x.emptyOnes(), 3, "by tens all is 0");
    x.joins(15, 0, 0);
    due(x.emptyOnes(), 2, "a sharp one tells of cask 0");
    x.share(2, 3);
    due(x.emptyOnes(), 6, "one that tastes of nothing is like an empty one");
    start(25);
    // cask 0 tastes 3, its cousin 15: together 138 by 10; were it empty, 0 and 13: 117 by 10
    x.comes(0, 0, 1000);
    x.comes(5, 0, 9000);
    x.share(0, 1);
    x.share(1, 9);
    x.joins(1, 0, 0);
    due(x.emptyOnes(), 0, "its cousin tells of it");
    due(x.taste(1, 0), 15, "nothing is changed by asking");
    due(x.cask(0, 0), 0, "nothing is changed by asking");
  }

  private static void guess() {
    start(26);
    due(x.guess(0, 1, 1, 0), -1, "no cask");
    twoCasks(1, 0);
    x.joins(1, 9, 0);
    due(x.guess(0, 1, 99, 0), 1, "in all");
    due(x.guess(0, 1, 99, 1), 1, "in all");
    due(x.guess(1, 10, 5, 0), 0, "a third of 10 is no more than two thirds of 5");
    due(x.guess(1, 11, 5, 0), 1, "a third of 11 is");
    due(x.guess(1, 1, 5, 1), 11, "the least");
    due(x.guess(1, 99, 5, 1), 11, "whatever r is");
    due(x.guess(1, 1, 0, 0), 1, "a wrong word costs nothing");
    due(x.guess(1, 1, 0, 1), 1, "the least there is");
    due(x.guess(1, 1, 49, 1), 99, "the greatest there is");
    due(x.guess(1, 1, 50, 1), -9, "above it");
    x.joins(1, 0, 0);
    due(x.guess(1, 99, 0, 0), 0, "in none");
    due(x.guess(1, 99, 0, 1), -9, "in none");
    x.share(0, 4);
    x.share(1, 1);
    due(x.guess(0, 99, 0, 0), 0, "none fits");
    due(x.guess(0, 99, 0, 1), -9, "none fits");
    due(x.guess(2, 0, 100, 2), -1, "nobody first");
    due(x.guess(0, 0, 100, 2), -4, "r below, ahead of above");
    due(x.guess(0, 100, -1, 2), -4, "w below, ahead of above");
    due(x.guess(0, 100, 0, 2), -6, "r above, ahead of what");
    due(x.guess(0, 1, 100, 2), -6, "w above, ahead of what");
    due(x.guess(0, 1, 0, 2), -2, "no such what");
    due(x.guess(0, 1, 0, -1), -2, "no what below 0");
    refused(-1, 2);
    refused(-2, 2);
    refused(-4, 2);
    refused(-6, 2);
  }

  private static void adds() {
    start(27);
    due(x.adds(0, 0), NOBODY, "no cask");
    x.comes(0, 0, 4000);
    x.comes(4, 0, 0);
    x.comes(0, 0, 4000);
    x.share(0, 1);
    due(x.adds(0, 0), 0, "nobody tells anything");
    due(x.adds(0, 1), 1, "0 over 1");
    x.joins(1, 9, 0);
    due(x.adds(0, 0), 1, "from 0 to 1");
    due(x.adds(0, 1), 1, "from 0 to 1");
    x.share(2, 1);
    due(x.adds(0, 0), 1, "in one of two orders");
    due(x.adds(0, 1), 2, "in one of two orders");
    x.share(2, 0);
    x.share(1, 1);
    due(x.adds(1, 0), -1, "behind the other it takes the taste away");
    due(x.adds(1, 1), 2, "in one of two orders");
    due(x.adds(0, 0), 1, "the other only adds in front");
    due(x.adds(0, 1), 2, "in one of two orders");
    x.share(2, 1);
    // 12 alone or with 12 is told, with one empty 6, with both and empty 8 not
    due(x.adds(1, 0), -2, "-1 in each order but those in which it is first");
    due(x.adds(1, 1), 3, "4 of 6 orders");
    due(x.adds(0, 0), 1, "adds when first of all: 2 of 6 orders");
    due(x.adds(0, 1), 3, "2 of 6 orders");
    x.share(2, 0);
    due(x.adds(2, 2), OTHER, "other ahead of state");
    due(x.adds(2, 0), STATE, "no share");
    due(x.adds(3, 2), NOBODY, "nobody first");
    due(x.adds(-1, 0), NOBODY, "the glass is no cask");
    due(x.adds(0, -1), OTHER, "no part below 0");
    refused(-1, 3);
    refused(-2, 2);
    refused(-3, 1);
  }

  private static void onions() {
    start(28);
    due(x.onions(2, 0), 1, "nothing is told apart");
    due(x.onions(2, 1), 1, "nothing is told apart");
    twoCasks(0, 0);
    x.joins(1, 9, 0);
    due(x.onions(20, 0), 19, "the one without onions");
    due(x.onions(20, 1), 20, "the one without onions");
    x.joins(1, 0, 0);
    due(x.onions(2, 0), 3, "one of two without");
    due(x.onions(2, 1), 4, "one of two without");
    x.joins(2, 9, 0);
    due(x.onions(3, 0), 8, "the third tells nothing");
    due(x.onions(3, 1), 9, "the third tells nothing");
    due(x.onions(1, 2), BELOW, "below first");
    due(x.onions(21, 2), ROOM, "above ahead of other");
    due(x.onions(2, 2), OTHER, "no such part");
    due(x.onions(2, -1), OTHER, "no part below 0");
    refused(-2, 2);
    refused(-4, 1);
    refused(-6, 1);
    start(28);
    x.comes(0, 0, 1000);
    x.comes(0, 0, 100);
    x.comes(0, 0, 10);
    x.joins(1, 0, 0);
    x.joins(2, 0, 0);
    x.joins(4, 0, 0);
    due(x.onions(4, 0), 27, "two or three of three: (27 + 3 times 9) of 64");
    due(x.onions(4, 1), 32, "54 of 64");
  }

  private static void two() {
    start(29);
    due(x.two(0), 0, "no casks, no row");
    twoCasks(1, 0);
    x.joins(1, 9, 0);
    x.joins(3, 0, 0);
    x.joins(10, 2, 0);
    due(x.two(0), -3, "no row");
    rowAll(2, 1);
    // 9 6 13 10 instead of 3 6 9 12
    due(x.two(0), 6, "the first tells 0 as well");
    due(x.two(1), 9, "marks 0 and 3");
    due(x.count(5), 2, "the row stays");
    rowAll(9, 0);
    due(x.two(0), 0, "the same taste");
    due(x.two(1), 0, "the same taste");
    rowAll(0, 0);
    due(x.two(0), 6, "a glass of nothing");
    due(x.two(1), 11, "marks 0, 1, 3");
    due(x.two(2), -2, "no such what");
    rowAll(0, 10);
    due(x.two(0), -3, "one above 9");
    rowAll(10, 0);
    due(x.two(0), -3, "the first above 9");
    rowAll(9, 9);
    due(x.two(1), 9, "12 6 15 9: of mark 1 6 as well");
    rowAll(0, 10);
    due(x.two(-1), -2, "other ahead of state");
    rowAll(1, 0, 0);
    due(x.two(1), -3, "three numbers");
    rowAll(1);
    due(x.two(1), -3, "one number");
    refused(-2, 2);
    refused(-3, 5);
  }

  private static void impostor() {
    start(30);
    twoCasks(1, 1);
    x.joins(5, 4, 0);
    // the glass is 12 6 15 9; he tells 10 of mark 0, 15 of mark 2
    due(x.impostor(0, 0), -3, "no row");
    rowAll(10, 0, 15, 0);
    due(x.impostor(0, 0), -9, "all true");
    due(x.impostor(0, 1), -9, "none that he does not taste");
    rowAll(12, 0, 15, 0);
    due(x.impostor(0, 0), 0, "he does not tell 12");
    rowAll(10, 6, 14, 9);
    due(x.impostor(0, 0), 2, "he does not tell 14");
    due(x.impostor(0, 1), 1, "he does not taste mark 1");
    rowAll(10, 0, 15, 9);
    due(x.impostor(0, 1), 3, "nor mark 3");
    due(x.count(5), 4, "the row stays");
    due(x.impostor(1, 2), -1, "nobody first");
    due(x.impostor(-1, 0), -1, "no taster below 0");
    x.row(1);
    due(x.impostor(0, 2), -2, "other ahead of state");
    due(x.impostor(0, 0), -3, "five numbers");
    rowAll(1, 2, 3);
    due(x.impostor(0, -1), -2, "no what below 0");
    due(x.impostor(0, 1), -3, "three numbers");
    refused(-1, 2);
    refused(-2, 2);
    refused(-3, 3);
  }

  private static void nearestAndStrongest() {
    start(31);
    due(x.nearest(), -9, "no casks");
    x.comes(0, 0, 1234);
    due(x.nearest(), -9, "one cask");
    x.comes(1, 7, 5050);
    due(x.nearest(), 1, "the two");
    x.comes(2, 0, 9876);
    x.comes(3, 3, 2100);
    // 3 6 9 12, 22 7 22 7, 13 12 10 9, 18 12 6 6: 20 between 0 and 2, 12 between 2 and 3
    due(x.nearest(), 23, "2 and 3");
    x.comes(0, 0, 1234);
    due(x.nearest(), 4, "0 and 4 taste alike");
    x.comes(3, 3, 2100);
    due(x.nearest(), 4, "of several the first");

    start(32);
    due(x.strongest(), -9, "no casks");
    sixKinds();
    due(x.strongest(), -9, "nothing is in");
    x.share(0, 4);
    due(x.strongest(), 0, "the only one");
    x.share(1, 2);
    due(x.strongest(), 0, "120 ahead of 116");
    x.share(1, 3);
    due(x.strongest(), 1, "174 ahead of 120");
    x.share(0, 9);
    x.share(3, 9);
    due(x.strongest(), 3, "378 ahead of 270");
    start(32);
    x.comes(4, 0, 0);
    x.comes(0, 0, 1000);
    x.comes(0, 0, 100);
    x.share(2, 1);
    x.share(1, 1);
    due(x.strongest(), 1, "of several the least");
  }

  private static void sharper() {
    start(33);
    due(x.sharper(), -9, "nobody");
    twoCasks(1, 0);
    x.joins(1, 9, 0);
    due(x.sharper(), 0, "3 become 2");
    x.joins(1, 9, 0);
    due(x.sharper(), 0, "of several the least");
    x.joins(1, 0, 0);
    due(x.sharper(), -9, "no fewer than now");
    due(x.taster(0, 1), 9, "nobody is changed by asking");
    start(33);
    twoCasks(1, 1);
    // told 10 of mark 0 by tens: 1 1, 1 2, 2 2 (12, 15, 12); of mark 1 6 by tens: all
    x.joins(2, 9, 0);
    x.joins(1, 9, 0);
    due(x.fits(-1), 3, "three now");
    due(x.sharper(), 1, "mark 1's taster can leave 6s: 1 1, 1 2, 2 2; mark 0's 12s: two");
    start(33);
    x.comes(1, 2, 0);
    x.comes(0, 0, 1000);
    x.share(1, 1);
    x.joins(1, 1, 0);
    due(x.fits(-1), 8, "2 and 3 are told alike by twos");
    due(x.sharper(), 0, "as sharp as can be: not by twos");
  }

  // ---------------------------------------------------------------- 34 to 44

  private static void promises34to44() {
    more();
    range();
    pour();
    like();
    duo();
    hidden();
    diluted();
    kinds();
    substitutes();
    exact();
    bluntest();
  }

  private static void more() {
    start(34);
    due(x.more(), -9, "no casks");
    twoCasks(1, 0);
    due(x.more(), -9, "without tasters never fewer");
    x.joins(1, 9, 0);
    // told 0 fit three; 1 1 is 12, told 10: 1 1, 1 2, 2 2 fit: no fewer; 2 0 is told 0
    due(x.more(), -9, "no fewer");
    x.share(0, 0);
    x.share(1, 2);
    // told 20 fit 0 1 and 0 2; 1 2 is told 10: three; 0 3 two
    due(x.more(), -9, "no fewer");
    x.share(0, 2);
    x.share(1, 1);
    // told 0 (9) fit three: 1 0, 2 0, 2 1; 3 1 is 7: told 0; 2 2 is told 10: three
    due(x.more(), -9, "no fewer");
    x.joins(1, 0, 0);
    // just 9: 2 1 alone; 3 1 is 7: none; 2 2 is 12: 1 1 and 2 2
    due(x.fits(-1), 1, "one fits");
    due(x.more(), 0, "with one more of cask 0 none does");
    due(x.cask(0, 6), 2, "nothing is changed by asking");
    x.share(0, 9);
    x.share(1, 9);
    due(x.fits(-1), 2, "1 1 and 2 2");
    due(x.more(), -9, "there is no more than 9");
    x.share(1, 5);
    // 9 5 is 9: 2 1 alone; 9 6 is 10: none
    due(x.more(), 1, "of cask 1 there is more");
    start(34);
    x.comes(0, 0, 1000);
    x.comes(0, 0, 2000);
    x.joins(1, 0, 0);
    x.share(0, 1);
    due(x.fits(-1), 2, "just 3 are 1 0, 2 0");
    due(x.more(), -9, "of 4 are 1 1, 2 1, 2 2");
    start(34);
    x.comes(0, 0, 1000);
    x.comes(0, 0, 1000);
    x.comes(0, 0, 3000);
    x.joins(1, 0, 0);
    x.share(0, 1);
    x.share(1, 1);
    x.share(2, 1);
    // 5 are two of casks 0 and 1 beside one of 2, three or four beside two
    due(x.fits(-1), 6, "3 and 2 and 1");
    // with one more of 0 or 1 it is 4: three or four of them beside one; with one more of 2 it is 6
    due(x.more(), 0, "three by casks 0 and 1, five by cask 2");
  }

  private static void range() {
    start(35);
    due(x.range(0), 0, "no casks");
    x.comes(0, 0, 1234);
    due(x.range(0), 0, "one cask");
    x.comes(1, 7, 5050);
    x.comes(2, 0, 9876);
    due(x.range(0), 19, "22 less 3");
    due(x.range(1), 6, "12 less 6");
    due(x.range(2), 13, "22 less 9");
    due(x.range(3), 5, "12 less 7");
    x.comes(4, 0, 9999);
    due(x.range(0), 22, "22 less 0");
    x.comes(3, 9, 9999);
    due(x.range(0), 72, "the greatest");
    due(x.range(4), -1, "no such mark");
    due(x.range(-1), -1, "no mark below 0");
    refused(-1, 2);
  }

  private static void pour() {
    start(36);
    due(x.pour(0, 0), -9, "no casks");
    twoCasks(9, 9);
    due(x.pour(0, 3), 1, "one of cask 0");
    due(x.pour(0, 22), 1, "one of cask 1");
    due(x.pour(0, 12), 2, "one of each");
    due(x.pour(0, 9), 3, "two of cask 0, one of cask 1");
    due(x.pour(0, 15), 3, "one of cask 0, two of cask 1");
    due(x.pour(0, 10), -9, "not to be had");
    due(x.pour(0, 0), -9, "nothing is not some");
    due(x.pour(0, 99), -9, "too much");
    due(x.pour(3, 8), 3, "7 7 12");
    due(x.pour(4, -1), -1, "nobody first");
    due(x.pour(-1, 0), -1, "no mark below 0");
    due(x.pour(0, -1), -4, "below");
    due(x.pour(0, 100), -6, "above");
    x.comes(4, 0, 0);
    due(x.pour(0, 0), 1, "an empty one");
    due(x.pour(0, 1), 2, "one of cask 0 beside one empty");
    refused(-1, 2);
    refused(-4, 1);
    refused(-6, 1);
  }

  private static void like() {
    start(37);
    due(x.like(), 0, "no casks");
    twoCasks(1, 1);
    due(x.like(), 3, "nobody tells");
    x.joins(2, 0, 0);
    due(x.like(), 1, "6, as the glass");
    x.joins(8, 9, 0);
    due(x.like(), 0, "12 by tens is 10, the glass 9 is 0");
    x.comes(4, 0, 0);
    x.share(0, 0);
    x.share(1, 0);
    due(x.like(), 4, "the empty one as nothing");
  }

  private static void duo() {
    start(38);
    due(x.duo(0), -9, "nobody");
    twoCasks(1, 0);
    x.joins(1, 9, 0);
    due(x.duo(0), -9, "one");
    due(x.duo(1), -9, "one");
    x.joins(2, 9, 0);
    due(x.duo(0), 1, "the two");
    due(x.duo(1), 3, "three fit");
    x.joins(1, 0, 0);
    due(x.duo(0), 2, "of several the first");
    due(x.duo(1), 2, "two fit");
    x.joins(1, 0, 0);
    due(x.duo(0), 2, "of several the first");
    due(x.duo(2), -2, "no such what");
    due(x.duo(-1), -2, "no what below 0");
    refused(-2, 2);
    start(38);
    x.comes(0, 0, 1000);
    x.comes(0, 0, 100);
    x.comes(0, 0, 10);
    x.share(0, 1);
    x.share(1, 1);
    x.share(2, 1);
    x.joins(8, 0, 0);
    x.joins(1, 0, 0);
    x.joins(2, 0, 0);
    due(x.duo(0), 12, "marks 0 and 1");
    due(x.duo(1), 5, "1 and 1: 1 1 0, 1 1 1, 2 2 0, 2 2 1, 2 2 2");
  }

  private static void hidden() {
    start(39);
    due(x.hidden(0), 0, "no casks");
    due(x.hidden(1), -9, "no casks");
    twoCasks(1, 0);
    due(x.hidden(0), 3, "nobody tells: 0 down, 0 up, 1 up");
    due(x.hidden(1), 0, "cask 0 to 0");
    x.joins(1, 0, 0);
    due(x.hidden(0), 1, "2 of cask 0 taste the same");
    due(x.hidden(1), 2, "cask 0 to 2");
    x.share(0, 9);
    due(x.hidden(0), 1, "there is no more than 9; one of cask 1 is told");
    due(x.hidden(1), 8, "cask 0 to 8");
    x.share(0, 8);
    due(x.hidden(0), 2, "down and up to 9");
    due(x.hidden(1), 7, "down first");
    x.share(0, 0);
    x.share(1, 5);
    due(x.hidden(0), 2, "cask 1 down and up");
    due(x.hidden(1), 14, "cask 1 to 4");
    due(x.cask(1, 6), 5, "nothing is changed by asking");
    x.share(0, 1);
    x.share(1, 0);
    x.joins(8, 0, 0);
    x.mark(0, 0, 0);
    x.kind(1, 4, 0);
    due(x.hidden(0), 1, "of mark 3 an empty one's share is told");
    due(x.hidden(2), -2, "no such what");
    due(x.hidden(-1), -2, "no what below 0");
    refused(-2, 2);
  }

  private static void diluted() {
    start(40);
    due(x.diluted(0), -1, "nobody");
    twoCasks(0, 0);
    x.joins(1, 9, 0);
    x.joins(1, 0, 0);
    x.joins(9, 0, 0);
    due(x.diluted(1), 0, "a glass of nothing");
    x.share(0, 1);
    due(x.diluted(0), 0, "3 is told 0");
    due(x.diluted(1), 3, "3 by 4 is 0");
    due(x.diluted(2), 12, "12 by 13 is 0");
    x.share(1, 1);
    due(x.diluted(0), 1, "25 by 3 is 8");
    due(x.diluted(1), 24, "25 by 26 is 0");
    x.share(0, 0);
    x.share(1, 4);
    due(x.diluted(1), 85, "88 by 89 is 0");
    x.share(1, 5);
    due(x.diluted(1), -9, "110 by 104 is not");
    x.share(1, 4);
    x.share(0, 4);
    due(x.diluted(1), 93, "100 by 101 is 0");
    due(x.diluted(3), -1, "no such taster");
    due(x.diluted(-1), -1, "no taster below 0");
    start(40);
    // 36 and 72 by 1: 99 of water
    x.joins(1, 0, 0);
    x.comes(3, 0, 6000);
    x.share(0, 2);
    due(x.diluted(0), 71, "72 by 73 is 0");
    x.share(0, 3);
    x.mark(0, 0, 5);
    x.comes(0, 0, 4000);
    x.share(1, 1);
    due(x.diluted(0), 99, "102 by 103 is 0");
    x.mark(1, 0, 5);
    due(x.diluted(0), -9, "105 by 103 is not");
  }

  private static void kinds() {
    start(41);
    x.joins(1, 0, 0);
    due(x.kinds(0), 0, "no casks");
    twoCasks(9, 9);
    x.joins(1, 9, 0);
    x.joins(3, 9, 0);
    x.joins(8, 9, 0);
    due(x.kinds(0), 5, "22, 3, 12, 15, 9");
    due(x.kinds(1), 3, "20, 0, 10");
    due(x.kinds(2), 3, "mark 1 tells nothing more");
    due(x.kinds(3), 2, "0 and 10");
    due(x.kinds(4), -1, "no such taster");
    due(x.kinds(-1), -1, "no taster below 0");
    refused(-1, 2);
    start(41);
    x.comes(0, 0, 5100);
    x.comes(5, 0, 5200);
    x.comes(3, 7, 900);
    x.joins(3, 0, 0);
    // 15 3, 15 4, 14 68: the last two are unlike, though 15 times 64 and 4 is 14 times 64 and 68
    due(x.kinds(0), 11, "great tastes are told from one another");
    due(x.kinds(0), 11, "as often as one asks");
  }

  private static void substitutes() {
    start(42);
    due(x.substitutes(0), -1, "no cask");
    twoCasks(1, 0);
    due(x.substitutes(0), 2, "nobody tells");
    due(x.substitutes(1), -3, "no share");
    x.joins(1, 9, 0);
    due(x.substitutes(0), 0, "20 instead of 0");
    x.comes(4, 0, 0);
    due(x.substitutes(0), 4, "0 as well");
    x.share(2, 8);
    due(x.substitutes(0), 6, "9 of it, 0 as well; 22 by 9 is 2, told 0 too");
    x.share(2, 9);
    due(x.substitutes(0), 6, "9 and 1 of cask 2 are 9; 22 by 10 is 2, told 0 too");
    due(x.substitutes(2), 1, "1 and 9 of cask 0 are 9, told 0 too; of cask 1 20");
    x.share(0, 0);
    due(x.substitutes(2), 1, "9 of cask 0 are told 0 too");
    due(x.cask(2, 6), 9, "nothing is changed by asking");
    due(x.cask(0, 6), 0, "nothing is changed by asking");
    due(x.substitutes(3), -1, "no such cask");
    due(x.substitutes(-1), -1, "the glass is no cask");
    refused(-1, 3);
    refused(-3, 1);
    start(42);
    // 3 and 9 are 6; 6 and 9 are 7, but with 3 beside they were 6
    x.comes(0, 0, 1000);
    x.comes(0, 0, 2000);
    x.comes(0, 0, 3000);
    x.comes(0, 0, 1000);
    x.share(0, 1);
    x.share(2, 1);
    x.joins(1, 0, 0);
    due(x.substitutes(0), 8, "it has none then: cask 3 alone does");
    x.joins(1, 1, 0);
    due(x.substitutes(0), 8, "the sharp one tells the others");
    x.share(3, 8);
    x.share(2, 8);
    // 3 3 9 of 1 8 8 are 5 (99 by 17); 9 of cask 3 as well
    due(x.substitutes(0), 8, "9 of cask 3 taste the same");
    start(42);
    x.comes(0, 0, 0);
    x.share(0, 7);
    x.comes(0, 0, 0);
    x.comes(0, 0, 0);
    x.comes(0, 0, 0);
    x.share(3, 3);
    due(x.substitutes(0), 14, "what would be more than 9 leaves nobody out");
    due(x.substitutes(3), 7, "nor the other way");
    start(42);
    // 27 27 0 of 7 3 9 are 14 (270 by 19); 9 of cask 1 are 13 (243 by 18), 9 of cask 2 are 6 (81 by 12)
    x.comes(0, 0, 9000);
    x.comes(0, 0, 9000);
    x.comes(4, 0, 0);
    x.share(0, 7);
    x.share(1, 3);
    x.share(2, 9);
    x.joins(1, 9, 0);
    due(x.substitutes(0), 2, "10 is told of 13 too");
    due(x.substitutes(1), 5, "9 of cask 0 as well; 9 of cask 2 are 11 (189 by 16)");
    x.joins(1, 0, 0);
    due(x.substitutes(0), 0, "with 10 of cask 1 it would be 14, but 9 are the most");
    x.share(1, 2);
    // 243 by 18 are 13, with 7 and 2 there are just 9
    due(x.substitutes(0), 2, "just 9");
  }

  private static void exact() {
    start(43);
    x.joins(15, 2, 0);
    due(x.exact(0), 0, "no casks");
    x.joins(15, 0, 0);
    x.joins(1, 9, 0);
    x.joins(3, 5, 0);
    sixKinds();
    // by threes: 3 6 9 12; none of 22 7 22 7; 12 9; 18 12 6 6; 0 0 0 0; none of 1 1 1 1
    due(x.exact(0), 14, "by threes");
    due(x.exact(1), 24, "sharp: all");
    due(x.exact(2), 1, "by tens of mark 0 the 0");
    due(x.exact(3), 6, "by sixes 6; 12; 18 12; 0 0");
    due(x.exact(4), -1, "no such taster");
    due(x.exact(-1), -1, "no taster below 0");
    refused(-1, 2);
  }

  private static void bluntest() {
    start(44);
    sixKinds();
    x.joins(1, 0, 0);
    x.joins(2, 9, 0);
    x.joins(15, 0, 0);
    due(x.bluntest(0, 0, 1), 9, "3 and 22");
    due(x.bluntest(1, 0, 1), 6, "6 and 7 by sevens");
    due(x.bluntest(1, 1, 0), 6, "7 and 6 by sevens");
    due(x.bluntest(1, 2, 3), -9, "12 and 12");
    due(x.bluntest(2, 4, 5), 0, "0 and 1 only sharp");
    due(x.bluntest(0, 2, 3), 8, "13 and 18 by nines");
    due(x.bluntest(0, 1, 1), -1, "one twice");
    due(x.bluntest(3, 0, 1), -1, "no such taster");
    due(x.bluntest(-1, 0, 1), -1, "no taster below 0");
    due(x.bluntest(0, 6, 1), -1, "no such cask");
    due(x.bluntest(0, 0, -1), -1, "the glass is no cask");
    refused(-1, 5);
  }

  // ---------------------------------------------------------------- 45 to 57

  private static void promises45to57() {
    closest();
    rank();
    alikeGlasses();
    blind();
    loner();
    twin();
    row();
    judge();
    clear();
    lots();
    image();
    restore();
    count();
  }

  private static void closest() {
    start(45);
    due(x.closest(0), -3, "no row");
    rowAll(9, 6, 13, 10);
    due(x.closest(-1), -9, "no casks");
    due(x.closest(0), -9, "no casks");
    twoCasks(0, 0);
    due(x.closest(-1), 0, "just 2 1");
    due(x.closest(0), 2, "2 1");
    due(x.closest(1), 1, "2 1");
    due(x.closest(2), -9, "no third cask");
    due(x.count(5), 4, "the row stays");
    rowAll(3, 6, 9, 11);
    due(x.closest(-1), 1, "1 0 and 2 0 as near");
    due(x.closest(0), 1, "the first");
    rowAll(99, 99, 99, 99);
    due(x.closest(-1), 338, "396 less 58");
    due(x.closest(0), 0, "0 1");
    due(x.closest(1), 1, "the first of 0 1 and 0 2");
    x.row(0);
    due(x.closest(-2), -4, "below ahead of state");
    due(x.closest(0), -3, "five numbers");
    rowAll(1, 2, 3);
    due(x.closest(0), -3, "three numbers");
    refused(-3, 3);
    refused(-4, 1);
  }

  private static void rank() {
    start(46);
    due(x.rank(0), -9, "no casks");
    sixKinds();
    // 30, 58, 44, 42, 0, 4
    int[] ranks = {1, 2, 3, 0, 5, 4};
    for (int i = 0; i < 6; i++) {
      due(x.rank(i), ranks[i], "rank(" + i + ")");
    }
    due(x.rank(6), -9, "no seventh");
    due(x.rank(Integer.MAX_VALUE), -9, "far above");
    due(x.rank(-1), -4, "below");
    x.comes(0, 0, 1234);
    due(x.rank(3), 0, "of two alike the least");
    due(x.rank(4), 6, "then the other");
    refused(-4, 1);
  }

  private static void alikeGlasses() {
    start(47);
    due(x.alikeGlasses(), 0, "no casks");
    twoCasks(1, 0);
    due(x.alikeGlasses(), 2, "1 0, 2 0");
    x.joins(1, 9, 0);
    due(x.alikeGlasses(), 2, "whoever tells");
    x.share(1, 1);
    due(x.alikeGlasses(), 2, "1 1, 2 2");
    x.share(0, 2);
    due(x.alikeGlasses(), 1, "2 1");
    x.share(0, 9);
    due(x.alikeGlasses(), 0, "not to be had");
    x.share(0, 0);
    x.share(1, 0);
    due(x.alikeGlasses(), 0, "none tastes of nothing");
    x.comes(0, 0, 4);
    x.share(0, 1);
    x.share(2, 1);
    // 1 3 4 12: of 1 0 1 and 2 0 2
    due(x.alikeGlasses(), 2, "all four marks count");
    start(47);
    x.comes(1, 1, 0);
    x.comes(4, 0, 0);
    x.comes(2, 0, 1000);
    x.share(0, 1);
    due(x.alikeGlasses(), 2, "1 1 1 1 is just of cask 0");
    x.share(0, 0);
    x.share(2, 1);
    due(x.alikeGlasses(), 2 + 4, "1 0 0 0 of cask 2, of 2 beside 0");
  }

  private static void blind() {
    start(48);
    due(x.blind(0, 0), -1, "nobody");
    x.joins(2, 1, 0);
    due(x.blind(0, 0), 0, "no casks");
    due(x.blind(0, 1), -9, "no casks");
    sixKinds();
    x.joins(15, 0, 0);
    // of mark 1 by twos: 6 6 12 12 0 0
    due(x.blind(0, 0), 3, "three twos");
    due(x.blind(0, 1), 1, "0 and 1 first");
    due(x.blind(1, 0), 0, "none");
    due(x.blind(1, 1), -9, "none");
    x.mark(1, 1, 3);
    due(x.blind(0, 1), 23, "then 2 and 3");
    due(x.blind(2, 2), -1, "nobody first");
    due(x.blind(-1, 0), -1, "no taster below 0");
    due(x.blind(0, 2), -2, "no such what");
    due(x.blind(0, -1), -2, "no what below 0");
    refused(-1, 3);
    refused(-2, 2);
  }

  private static void loner() {
    start(49);
    due(x.loner(0), -9, "no casks");
    due(x.loner(1), 0, "no casks");
    sixKinds();
    due(x.loner(0), 0, "nobody tells: of several the least");
    due(x.loner(1), 0, "nobody tells");
    x.joins(2, 9, 0);
    // of mark 1 by tens: 0 0 10 10 0 0
    due(x.loner(0), 2, "from four others");
    due(x.loner(1), 4, "from four others");
    x.joins(8, 9, 0);
    // of mark 3 by tens: 10 0 0 0 0 0
    due(x.loner(0), 0, "by one from 2, by the other from 5");
    due(x.loner(1), 7, "all together");
    due(x.loner(2), -2, "no such what");
    due(x.loner(-1), -2, "no what below 0");
    refused(-2, 2);
  }

  private static void twin() {
    start(50);
    due(x.twin(0), -1, "no cask");
    x.comes(0, 0, 1234);
    due(x.twin(0), -9, "no other one");
    x.comes(1, 7, 5050);
    x.comes(2, 0, 9876);
    x.comes(3, 3, 2100);
    // 0: 38 20 30; 1: 28 26 beside; 2 and 3: 12
    due(x.twin(0), 2, "20 from 2");
    due(x.twin(1), 3, "26 from 3");
    due(x.twin(2), 3, "12 from 3");
    due(x.twin(3), 2, "12 from 2");
    x.comes(2, 0, 9876);
    due(x.twin(0), 2, "of several the least");
    due(x.twin(2), 4, "the very same");
    x.comes(0, 0, 1234);
    due(x.twin(5), 0, "the first one");
    due(x.twin(6), -1, "no such cask");
    due(x.twin(-1), -1, "the glass is no cask");
    refused(-1, 3);
  }

  private static void row() {
    start(51);
    due(x.row(0), 1, "the least");
    due(x.row(99), 2, "the greatest");
    due(x.row(-1), -4, "below");
    due(x.row(100), -6, "above");
    for (int k = 3; k <= 12; k++) {
      due(x.row(k), k, "number " + k);
    }
    due(x.row(5), -6, "number 13");
    due(x.row(-1), -4, "below ahead of no room");
    due(x.count(5), 12, "twelve");
    refused(-4, 2);
    refused(-6, 2);
  }

  private static void judge() {
    start(52);
    due(x.judge(0), -9, "nothing said");
    x.row(1);
    due(x.judge(0), 0, "the glass of nothing tastes of nothing");
    due(x.count(5), 0, "the row has none then");
    x.row(0);
    due(x.judge(0), -9, "so it is");
    due(x.count(5), 0, "the row has none then");
    rowAll(0, 5);
    due(x.judge(0), 1, "no such cask");
    twoCasks(1, 1);
    rowAll(12, 3, 22);
    due(x.judge(0), -9, "glass, cask 0, cask 1");
    rowAll(9, 12, 7);
    due(x.judge(3), -9, "of mark 3");
    rowAll(12, 3);
    due(x.judge(0), -9, "not all need be told");
    rowAll(12, 4, 21);
    due(x.judge(0), 1, "the first that is not so");
    rowAll(12, 3, 21, 0);
    due(x.judge(0), 2, "the first that is not so");
    rowAll(12, 3, 22, 0);
    due(x.judge(0), 3, "no such one");
    rowAll(12, 3, 22);
    due(x.judge(4), -1, "no such mark");
    due(x.judge(-1), -1, "no mark below 0");
    due(x.count(5), 3, "the row stays then");
    refused(-1, 2);
  }

  private static void clear() {
    start(53);
    due(x.clear(), 0, "had none");
    x.row(5);
    x.row(6);
    due(x.clear(), 2, "had two");
    due(x.count(5), 0, "has none");
    due(x.clear(), 0, "had none");
    due(x.row(7), 1, "begins anew");
  }

  private static void lots() {
    start(54);
    due(x.lots(20, 7, 0), 0, "glasses of nothing");
    x.comes(0, 0, 1234);
    // 5 times 1103515245 plus 12345 is 1222621274 (wrapped): over 65536 18655: 1
    due(x.lots(1, 5, 0), 2, "a draw of 1: 1 and 2 taste alike");
    due(x.lots(1, 5, 1), 0, "two fit");
    // 1: 1103527590 over 65536 is 16838: 2; 0: 12345: 0
    due(x.lots(1, 1, 0), 2, "a draw of 2");
    due(x.lots(1, 0, 0), 0, "a draw of 0: a glass of nothing");
    // from 0: 0; then 12345 times it plus 12345 is -740551042, 1406932606: 21468: 0; then 3409: 1
    due(x.lots(2, 0, 0), 0, "then 0");
    due(x.lots(3, 0, 0), 2, "then 1");
    x.joins(15, 0, 0);
    x.comes(1, 7, 5050);
    // one fits as 1 2 and as 2 1, two as all others
    due(x.lots(6, 5, 0), 12, "1 0, 2 2, 2 2, 2 0, 1 0, 0 2");
    due(x.lots(6, 5, 1), 0, "always two");
    due(x.lots(1, 1, 1), 1, "2 1");
    due(x.lots(2, 1, 0), 3, "then 0 1");
    due(x.lots(5, 1, 0), 4, "then 1 2 and two of nothing");
    due(x.lots(6, 1, 0), 5, "then 1 2");
    due(x.lots(6, 1, 1), 3, "three of them");
    due(x.lots(3, -1, 0), 5, "2 2, 1 0, 1 2");
    due(x.lots(0, 0, 2), -4, "below first");
    due(x.lots(21, 0, 2), -6, "above ahead of other");
    due(x.lots(20, 0, 2), -2, "no such what");
    due(x.lots(1, 0, -1), -2, "no what below 0");
    due(x.count(2), 0, "no share is changed by asking");
    refused(-2, 2);
    refused(-4, 1);
    refused(-6, 1);
  }

  private static void image() {
    start(55);
    due(x.image(), 0, "of nothing");
    twoCasks(3, 4);
    due(x.count(6), 2, "two shares");
    due(x.image(), 2, "two casks");
    due(x.count(6), 2, "what can be taken back stays");
    x.share(0, 9);
    due(x.image(), 2, "anew");
    x.share(0, 1);
    x.restore();
    due(x.cask(0, 6), 9, "the latest one");
  }

  private static void restore() {
    start(56);
    due(x.restore(), -3, "there is none");
    twoCasks(3, 4);
    x.joins(7, 8, 9);
    x.image();
    x.comes(2, 2, 2222);
    x.joins(1, 1, 1);
    x.share(0, 9);
    x.mark(1, 2, 9);
    x.kind(0, 4, 4);
    x.feed('c');
    x.row(5);
    due(x.restore(), 2, "two casks");
    due(x.count(0), 2, "two casks");
    due(x.count(1), 1, "one taster");
    due(x.cask(0, 6), 3, "share");
    due(x.cask(1, 4), 5, "mark");
    due(x.cask(0, 0), 0, "kind");
    due(x.cask(0, 1), 0, "figure");
    due(x.taster(0, 0), 7, "the taster's marks");
    due(x.taste(0, 3), 12, "taste");
    due(x.taste(1, 2), 22, "taste");
    due(x.fits(-1), 4, "1 1, 1 2, 2 1, 2 2 told 9 0 9");
    due(x.count(4), 1, "letters stay");
    due(x.count(5), 1, "the row stays");
    due(x.count(6), 0, "nothing can be taken back");
    due(x.count(13), 1, "refusals stay");
    x.comes(0, 0, 1);
    due(x.cask(2, 6), 0, "one that comes anew");
    due(x.cask(2, 5), 1, "with its own marks");
    due(x.restore(), 2, "once more");
    x.share(0, 1);
    x.image();
    due(x.restore(), 2, "restored");
    due(x.cask(0, 6), 1, "the later image");
    refused(-3, 1);
  }

  private static void count() {
    start(57);
    sixKinds();
    x.joins(1, 1, 1);
    x.share(0, 9);
    x.share(5, 4);
    x.feed('c');
    x.feed('c');
    x.feed('c');
    x.row(1);
    due(x.count(0), 6, "casks");
    due(x.count(1), 1, "tasters");
    due(x.count(2), 13, "all shares");
    due(x.count(3), 10 + 10 + 30 + 3 + 20 + 4, "all marks");
    due(x.count(4), 3, "letters");
    due(x.count(5), 1, "in the row");
    due(x.count(6), 2, "can be taken back");
    x.cask(9, 0);
    x.in(9, 0);
    x.cask(0, 9);
    x.onions(1, 0);
    x.restore();
    x.feed(-1);
    x.feed(999);
    due(x.count(11), 2, "nobody, of longs too");
    due(x.count(12), 1, "other");
    due(x.count(13), 1, "state");
    due(x.count(14), 2, "below, of longs too");
    due(x.count(15), 0, "there is no -5");
    due(x.count(16), 1, "room");
    int[] none = {-1, 7, 8, 10, 17, 100, Integer.MIN_VALUE, Integer.MAX_VALUE};
    for (int what : none) {
      due(x.count(what), -9, "count(" + what + ")");
    }
    due(x.count(12), 1, "that is no refusal");
  }
}
