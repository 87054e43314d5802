/** For each promise of the document: ordinary inputs, the edges that it names, and wrong inputs. */
public final class PromisesTest {
  private static int asked = 0;
  private static int wrong = 0;

  private static void due(int promise, String what, long got, long want) {
    asked++;
    if (got != want) {
      wrong++;
      System.out.println("promise " + promise + ": " + what + " answered " + got + ", due is " + want);
    }
  }

  private static void due(int promise, String what, boolean got, boolean want) {
    due(promise, what, got ? 1L : 0L, want ? 1L : 0L);
  }

  /** Five ints of twenty bytes, blanks behind the text. */
  private static int[] packed(String text) {
    int[] five = new int[5];
    for (int i = 0; i < 20; i++) {
      int sign = i < text.length() ? text.charAt(i) : ' ';
      five[i / 4] = (five[i / 4] << 8) | (sign & 255);
    }
    return five;
  }

  private static int feedText(EmptyLegs x, String text) {
    int[] five = packed(text);
    return x.feed(five[0], five[1], five[2], five[3], five[4]);
  }

  private static int tell(EmptyLegs x, int day, String text) {
    for (int at = 0; at == 0 || at < text.length(); at += 20) {
      feedText(x, text.substring(at, Math.min(text.length(), at + 20)));
    }
    return x.law(day, text.length());
  }

  /** A line of fields 0 to 3, each an hour from the next, two hours from 0 to 2. */
  private static EmptyLegs line() {
    EmptyLegs x = new EmptyLegs();
    x.way(0, 1, 60);
    x.way(1, 2, 60);
    x.way(2, 3, 60);
    x.way(0, 2, 120);
    return x;
  }

  private static void newObject() {
    EmptyLegs x = new EmptyLegs();
    for (int what = 0; what <= 8; what++) due(1, "count(" + what + ")", x.count(what), 0);
    for (int a = 0; a < 8; a++) {
      for (int b = 0; b < 8; b++) due(1, "flight without a way", x.flight(a, b, 0, 1), -1);
    }
    for (int day = 0; day < 7; day++) {
      due(1, "duty at first", x.rule(day, 0), 840);
      due(1, "rest at first", x.rule(day, 1), 600);
    }
    due(1, "plan", x.plan(), 0);
    due(1, "fits", x.fits(), 1);
    due(1, "NONE", EmptyLegs.NONE, -1);
    EmptyLegs y = new EmptyLegs();
    y.way(0, 1, 10);
    due(1, "objects are apart", x.flight(0, 1, 0, 1), -1);
  }

  private static void feed() {
    EmptyLegs x = new EmptyLegs();
    due(2, "first", feedText(x, "d100;r50"), 20);
    due(2, "second", feedText(x, "x"), 40);
    due(2, "third", feedText(x, "y"), -1);
    due(2, "bytes", x.count(8), 40);
    due(2, "the tape is in order", x.law(0, 8), 0);
    due(2, "duty", x.rule(0, 0), 100);
    due(2, "rest", x.rule(0, 1), 50);
    due(2, "empty", x.count(8), 0);
    feedText(x, "d0100;r0050;d0200;r0");
    feedText(x, "060;d300;r0070;d0400");
    due(2, "forty bytes", x.law(0, 40), 0);
    due(2, "duty of forty", x.rule(0, 0), 400);
    due(2, "rest of forty", x.rule(0, 1), 70);
    due(2, "high bytes", x.feed(-1, 0, -1, 0, -1), 20);
    due(2, "no letter", x.law(0, 20), 100);
    due(2, "the highest byte first", x.feed(0x64363100, 0, 0, 0, 0), 20);
    due(2, "d61", x.law(1, 3), 0);
    due(2, "61", x.rule(1, 0), 61);
  }

  private static void lawFaults() {
    String[] texts = {"", "x", " d60", "D60", "d", "r", "dx", "d;", "d-1", "d59", "d0", "d0059", "d60000", "d00060",
        "r10000", "r00000", "d60x", "d60 ", "d60,r1", "d60;", "d60;;", "d60;x", "d60;r", "d60;rx", "d60;r5x",
        "d60;d59", "d59x", "d59;x", "r1;d60;r2;", "d60r5", "d12345678", "d1234;r12345", "r5;d6", "d60\0", "d60;\0",
        "d60;r00", "r0;r", ";", ";d60", "d60;r9999;d9999;r0;d60;r1;r1;r1;r1;r", "d0060x"};
    int[] faults = {100, 100, 100, 100, 201, 201, 201, 201, 201, 301, 301, 301, 301, 301,
        301, 301, 403, 403, 403, 104, 104, 104, 205, 205, 406,
        305, 301, 301, 110, 403, 301, 307, 304, 403, 104,
        0, 204, 100, 100, 236, 405};
    for (int i = 0; i < texts.length; i++) {
      EmptyLegs x = new EmptyLegs();
      due(3, "'" + texts[i] + "'", tell(x, 0, texts[i]), faults[i]);
      due(3, "the tape behind '" + texts[i] + "'", x.count(8), 0);
      if (faults[i] != 0) {
        due(3, "the duty stays", x.rule(0, 0), 840);
        due(3, "the rest stays", x.rule(0, 1), 600);
      }
    }
  }

  private static void law() {
    lawFaults();
    EmptyLegs x = new EmptyLegs();
    due(3, "an empty text", x.law(6, 0), 100);
    feedText(x, "d60;r0");
    due(3, "day -1", x.law(-1, 3), -1);
    due(3, "day 7", x.law(7, 3), -1);
    due(3, "n -1", x.law(0, -1), -1);
    due(3, "n 21", x.law(0, 21), -1);
    due(3, "least n", x.law(0, Integer.MIN_VALUE), -1);
    due(3, "most n", x.law(0, Integer.MAX_VALUE), -1);
    due(3, "the tape stays", x.count(8), 20);
    due(3, "only n bytes are read", x.law(0, 3), 0);
    due(3, "duty", x.rule(0, 0), 60);
    due(3, "rest is not told", x.rule(0, 1), 600);
    due(3, "the rest of the tape is gone", x.count(8), 0);
    feedText(x, "d60;r0");
    due(3, "cut within a clause", x.law(0, 5), 205);
    due(3, "of two the later", tell(x, 0, "d70;d80;r7;r8"), 0);
    due(3, "the later duty", x.rule(0, 0), 80);
    due(3, "the later rest", x.rule(0, 1), 8);
  }

  private static void rule() {
    EmptyLegs x = new EmptyLegs();
    tell(x, 2, "d9999;r0");
    tell(x, 4, "d60");
    tell(x, 6, "r9999");
    int[] duties = {840, 840, 9999, 9999, 60, 60, 60};
    int[] rests = {600, 600, 0, 0, 0, 0, 9999};
    for (int day = 0; day < 7; day++) {
      due(4, "duty of day " + day, x.rule(day, 0), duties[day]);
      due(4, "rest of day " + day, x.rule(day, 1), rests[day]);
    }
    tell(x, 2, "r5");
    due(4, "the earlier text of the day is gone", x.rule(2, 0), 840);
    due(4, "its rest", x.rule(5, 1), 5);
    tell(x, 0, "d100");
    due(4, "told late, in force by days", x.rule(3, 0), 100);
    due(4, "day 4 has its own", x.rule(4, 0), 60);
    tell(x, 0, "r1");
    due(4, "untold on day 0", x.rule(0, 0), 840);
    tell(x, 0, "d59");
    due(4, "a fault changes nothing", x.rule(0, 1), 1);
    for (int bad : new int[] {-1, 7, Integer.MIN_VALUE, Integer.MAX_VALUE}) {
      due(4, "day " + bad, x.rule(bad, 0), -1);
      due(4, "day " + bad, x.rule(bad, 1), -1);
    }
    for (int bad : new int[] {-1, 2, Integer.MIN_VALUE, Integer.MAX_VALUE}) due(4, "what " + bad, x.rule(0, bad), -1);
  }

  private static void way() {
    EmptyLegs x = new EmptyLegs();
    for (int bad : new int[] {-1, 8, Integer.MIN_VALUE, Integer.MAX_VALUE}) {
      due(5, "field " + bad, x.way(bad, 1, 60), false);
      due(5, "field " + bad, x.way(1, bad, 60), false);
      due(5, "no way to field " + bad, x.way(1, bad, 0), false);
    }
    for (int bad : new int[] {-1, 1, 9, 601, Integer.MIN_VALUE, Integer.MAX_VALUE}) due(5, "minutes " + bad, x.way(0, 7, bad), false);
    due(5, "to itself", x.way(3, 3, 60), false);
    due(5, "none to itself", x.way(3, 3, 0), false);
    due(5, "none was there", x.flight(0, 7, 0, 1), -1);
    due(5, "10", x.way(0, 7, 10), true);
    due(5, "600", x.way(7, 0, 600), true);
    due(5, "none where none is", x.way(1, 2, 0), true);
    due(5, "there", x.flight(0, 7, 0, 1), 0);
    due(5, "back", x.flight(7, 0, 0, 1), 1);
    due(5, "both ways alike", x.look(0, 5), 600);
    due(5, "a flight is on it", x.way(0, 7, 0), false);
    due(5, "another time", x.way(0, 7, 11), true);
    due(5, "as it is", x.look(1, 5), 11);
    x.cancel(0);
    due(5, "the other flight is on it", x.way(0, 7, 0), false);
    x.cancel(1);
    due(5, "none is on it", x.way(7, 0, 0), true);
    due(5, "gone", x.flight(0, 7, 0, 1), -1);
    due(5, "gone back", x.flight(7, 0, 0, 1), -1);
    EmptyLegs y = line();
    y.flight(2, 1, 100, 1);
    due(5, "the first flight is on it", y.way(1, 2, 0), false);
    due(5, "refused, so it stays", y.look(0, 5), 60);
    due(5, "one that ends at the same field", y.way(0, 1, 0), true);
    due(5, "one that begins at the same field", y.way(2, 3, 0), true);
  }

  private static void plane() {
    EmptyLegs x = new EmptyLegs();
    int[][] bad = {{-1, 1, 0, 1}, {8, 1, 0, 1}, {0, 0, 0, 1}, {0, 31, 0, 1}, {0, 1, -1, 1}, {0, 1, 181, 1}, {0, 1, 0, 0},
        {0, 1, 0, 1001}, {Integer.MIN_VALUE, 1, 0, 1}, {0, Integer.MAX_VALUE, 0, 1}, {0, 1, Integer.MIN_VALUE, 1}};
    for (int[] b : bad) due(6, "wrong", x.plane(b[0], b[1], b[2], b[3]), -1);
    due(6, "none yet", x.count(0), 0);
    due(6, "least", x.plane(0, 1, 0, 1), 0);
    due(6, "most", x.plane(7, 30, 180, 1000), 1);
    due(6, "third", x.plane(3, 4, 5, 6), 2);
    due(6, "wrong between", x.plane(3, 4, 500, 6), -1);
    due(6, "fourth", x.plane(3, 4, 5, 6), 3);
    due(6, "fifth", x.plane(3, 4, 5, 6), -1);
    due(6, "four", x.count(0), 4);
  }

  private static void flight() {
    EmptyLegs x = line();
    int[][] bad = {{0, 0, 0, 1}, {0, 3, 0, 1}, {-1, 0, 0, 1}, {0, 8, 0, 1}, {0, 1, -1, 1}, {0, 1, 10080, 1}, {0, 1, 0, 0},
        {0, 1, 0, 31}, {Integer.MAX_VALUE, 0, 0, 1}, {0, Integer.MIN_VALUE, 0, 1}, {0, 1, Integer.MIN_VALUE, 1}};
    for (int[] b : bad) due(7, "wrong", x.flight(b[0], b[1], b[2], b[3]), -1);
    due(7, "least", x.flight(0, 1, 0, 1), 0);
    due(7, "most", x.flight(1, 0, 10079, 30), 1);
    for (int f = 2; f < 8; f++) due(7, "flight " + f, x.flight(0, 1, f, 1), f);
    due(7, "8 are there", x.flight(0, 1, 8, 1), -1);
    for (int f = 8; f < 20; f++) {
      x.cancel(f - 1);
      due(7, "flight " + f, x.flight(0, 1, f, 1), f);
    }
    x.cancel(19);
    x.cancel(0);
    due(7, "20 are there", x.flight(0, 1, 8, 1), -1);
    due(7, "flights", x.count(1), 20);
    due(7, "of them live", x.count(2), 6);
  }

  private static void cancel() {
    EmptyLegs x = line();
    x.plane(0, 9, 0, 1);
    x.flight(0, 1, 100, 1);
    x.flight(1, 2, 200, 1);
    for (int bad : new int[] {-1, 2, 20, Integer.MIN_VALUE, Integer.MAX_VALUE}) due(8, "flight " + bad, x.cancel(bad), false);
    x.plan();
    due(8, "no leg", x.count(4), 0);
    due(8, "first", x.cancel(0), true);
    due(8, "again", x.cancel(0), false);
    due(8, "it is out of the plan", x.on(0), -1);
    due(8, "the other stays", x.on(1), 0);
    due(8, "a leg comes in its place", x.count(4), 60);
    due(8, "which begins", x.move(0, 0, 3), 140);
    due(8, "flown", x.count(3), 1);
    due(8, "told", x.look(0, 4), 1);
    due(8, "not told", x.look(1, 4), 0);
    due(8, "it is not planned", x.plan(), 1);
  }

  private static void storm() {
    EmptyLegs x = line();
    int[][] bad = {{-1, 0, 1}, {8, 0, 1}, {0, -1, 1}, {0, 10080, 10081}, {0, 10080, 10080}, {0, 5, 5}, {0, 5, 4}, {0, 0, 10081},
        {0, Integer.MAX_VALUE, Integer.MIN_VALUE}, {0, 5, Integer.MIN_VALUE}, {0, Integer.MIN_VALUE, 5}};
    for (int[] b : bad) due(9, "wrong", x.storm(b[0], b[1], b[2]), -1);
    due(9, "none yet", x.count(5), 0);
    x.plane(0, 9, 0, 1);
    x.flight(0, 1, 100, 1);
    due(9, "flown", x.plan(), 1);
    due(9, "up to the begin", x.storm(0, 90, 100), 0);
    due(9, "not in the begin's minute", x.fits(), 1);
    x.storm(0, 101, 200);
    x.storm(1, 0, 160);
    x.storm(1, 161, 10080);
    x.storm(0, 160, 161);
    x.storm(2, 0, 10080);
    due(9, "around the end's minute, at others", x.fits(), 1);
    due(9, "of the end's minute", x.storm(1, 160, 161), 6);
    due(9, "shut at the end", x.fits(), 0);
    for (int s = 7; s < 20; s++) due(9, "storm " + s, x.storm(7, 0, 10080), s);
    due(9, "20 are there", x.storm(7, 0, 10080), -1);
    due(9, "storms", x.count(5), 20);
    EmptyLegs y = line();
    y.plane(0, 9, 0, 1);
    y.flight(0, 1, 100, 1);
    y.plan();
    y.storm(0, 100, 101);
    due(9, "shut at the begin", y.fits(), 0);
    due(9, "no plan", y.plan(), 0);
  }

  private static void clock() {
    EmptyLegs x = new EmptyLegs();
    due(10, "-1", x.clock(-1), false);
    due(10, "0", x.clock(0), true);
    due(10, "100", x.clock(100), true);
    due(10, "99", x.clock(99), false);
    due(10, "100 again", x.clock(100), true);
    due(10, "10080", x.clock(10080), false);
    due(10, "most", x.clock(Integer.MAX_VALUE), false);
    due(10, "least", x.clock(Integer.MIN_VALUE), false);
    due(10, "stands", x.count(7), 100);
    due(10, "10079", x.clock(10079), true);
    due(10, "stands last", x.count(7), 10079);
  }

  private static void planMost() {
    EmptyLegs x = line();
    x.plane(0, 9, 0, 1);
    x.flight(0, 2, 300, 1);
    x.flight(0, 1, 310, 1);
    x.flight(1, 0, 400, 1);
    due(11, "two short ones, not the long one", x.plan(), 2);
    due(11, "the long one", x.on(0), -1);
    due(11, "short", x.on(1), 0);
    EmptyLegs y = line();
    y.plane(0, 9, 0, 1);
    y.plane(1, 9, 0, 1);
    y.flight(1, 2, 500, 1);
    due(11, "one", y.plan(), 1);
    due(11, "by the plane without a leg", y.on(0), 1);
    EmptyLegs z = line();
    for (int p = 0; p < 4; p++) z.plane(0, 9, 0, 1);
    for (int f = 0; f < 6; f++) z.flight(0, 1, 800 - f, 1);
    due(11, "a plane each", z.plan(), 4);
    int[] planes = {-1, -1, 3, 2, 1, 0};
    for (int f = 0; f < 6; f++) due(11, "the least row", z.on(f), planes[f]);
    EmptyLegs w = line();
    w.plane(0, 9, 0, 1);
    w.plane(0, 9, 0, 1);
    w.flight(0, 1, 100, 1);
    w.flight(0, 1, 100, 1);
    w.flight(0, 1, 100, 1);
    w.plan();
    due(11, "of like starts by number", w.on(0), 0);
    due(11, "then", w.on(1), 1);
    due(11, "the last", w.on(2), -1);
  }

  private static void planBounds() {
    EmptyLegs x = line();
    x.plane(1, 5, 30, 1);
    x.flight(0, 1, 90, 5);
    due(11, "the leg begins at 0", x.plan(), 1);
    due(11, "begin", x.move(0, 0, 3), 0);
    x.cancel(0);
    x.flight(0, 1, 89, 5);
    due(11, "the leg would begin ahead of 0", x.plan(), 0);
    x.cancel(1);
    x.flight(0, 1, 900, 6);
    due(11, "seats", x.plan(), 0);
    x.cancel(2);
    x.flight(1, 2, 0, 5);
    due(11, "no turn ahead of the first", x.plan(), 1);
    x.flight(2, 3, 89, 5);
    due(11, "turn is short by one", x.plan(), 1);
    x.flight(2, 3, 90, 5);
    due(11, "turn holds", x.plan(), 2);
    due(11, "by the later", x.on(5), 0);
    EmptyLegs y = line();
    y.plane(3, 5, 0, 1);
    y.flight(1, 0, 500, 1);
    due(11, "no way for the leg", y.plan(), 0);
    y.way(3, 1, 10);
    due(11, "a way for it", y.plan(), 1);
    EmptyLegs z = line();
    z.plane(0, 5, 0, 1);
    z.flight(0, 1, 10019, 1);
    due(11, "it ends at 10079", z.plan(), 1);
    z.way(0, 1, 61);
    due(11, "it ends behind", z.plan(), 0);
  }

  private static void planDuties() {
    EmptyLegs x = line();
    tell(x, 0, "d180;r100");
    x.plane(0, 5, 0, 1);
    x.flight(0, 1, 100, 1);
    x.flight(1, 0, 220, 1);
    due(11, "a duty of 180", x.plan(), 2);
    tell(x, 0, "d179;r100");
    due(11, "one of 179", x.plan(), 1);
    tell(x, 0, "d179;r60");
    due(11, "a rest of 60 between", x.plan(), 2);
    tell(x, 0, "d179;r61");
    due(11, "a rest of 61 is not", x.plan(), 1);
    EmptyLegs y = line();
    tell(y, 1, "d100;r10");
    y.plane(0, 5, 0, 1);
    y.flight(0, 1, 1400, 1);
    y.flight(1, 0, 1480, 1);
    due(11, "the law of the duty's first day", y.plan(), 2);
    tell(y, 0, "d139;r21");
    due(11, "its duty", y.plan(), 1);
    tell(y, 0, "d139;r20");
    due(11, "its rest", y.plan(), 2);
    tell(y, 1, "d60;r10");
    due(11, "the next duty", y.plan(), 2);
    y.way(0, 1, 61);
    tell(y, 0, "d139;r19");
    due(11, "the next duty is by its own day", y.plan(), 1);
  }

  private static void replan() {
    EmptyLegs x = line();
    x.plane(0, 9, 0, 1);
    x.plane(1, 9, 0, 1);
    x.flight(1, 0, 500, 1);
    due(12, "none at hand is moved", x.replan(), 0);
    due(12, "the best then", x.on(0), 1);
    x.flight(0, 1, 400, 1);
    x.flight(1, 2, 460, 1);
    due(12, "most flown", x.replan(), 0);
    due(12, "the one at hand stays", x.on(0), 1);
    due(12, "the new ones are joined", x.on(1), 0);
    due(12, "both", x.on(2), 0);
    x.storm(2, 520, 521);
    due(12, "one can't be flown", x.replan(), 1);
    due(12, "unflown", x.on(2), -1);
    due(12, "again", x.replan(), 0);
    EmptyLegs y = line();
    y.plane(0, 9, 0, 1);
    y.flight(1, 2, 500, 1);
    y.plan();
    y.plane(1, 5, 0, 1);
    due(12, "moved only for more flown", y.replan(), 0);
    due(12, "stays with its leg", y.count(4), 60);
    y.flight(0, 1, 500, 6);
    due(12, "moved for more", y.replan(), 1);
    due(12, "to the other", y.on(0), 1);
    due(12, "the new one", y.on(1), 0);
  }

  private static void fits() {
    EmptyLegs x = line();
    x.plane(0, 9, 0, 1);
    x.flight(0, 1, 100, 1);
    x.flight(0, 1, 300, 1);
    due(13, "with none at hand", x.fits(), 1);
    x.plan();
    due(13, "as planned", x.fits(), 1);
    x.way(0, 1, 101);
    due(13, "the leg would begin ahead of the first's end", x.fits(), 0);
    x.way(0, 1, 100);
    due(13, "just so", x.fits(), 1);
    tell(x, 0, "d299");
    due(13, "the duty is 300", x.fits(), 0);
    tell(x, 0, "d300");
    due(13, "the duty holds", x.fits(), 1);
    x.way(0, 1, 301);
    x.cancel(0);
    due(13, "the first is gone, the other too long", x.fits(), 0);
    tell(x, 0, "d301");
    due(13, "it holds", x.fits(), 1);
  }

  private static void on() {
    EmptyLegs x = line();
    x.plane(0, 9, 0, 1);
    x.flight(0, 1, 100, 1);
    due(14, "not planned", x.on(0), -1);
    x.plan();
    due(14, "planned", x.on(0), 0);
    x.flight(1, 0, 200, 1);
    due(14, "a new one", x.on(1), -1);
    x.flight(0, 1, 100, 1);
    x.plan();
    due(14, "unflown", x.on(2), -1);
    x.cancel(0);
    due(14, "cancelled", x.on(0), -1);
    for (int bad : new int[] {-1, 3, 20, Integer.MIN_VALUE, Integer.MAX_VALUE}) due(14, "flight " + bad, x.on(bad), -1);
  }

  private static void move() {
    EmptyLegs x = line();
    x.plane(0, 9, 30, 1);
    x.flight(2, 1, 500, 1);
    x.flight(1, 0, 600, 1);
    x.flight(1, 2, 800, 1);
    x.plan();
    int[][] moves = {{-1, 0, 2, 350, 470}, {0, 2, 1, 500, 560}, {1, 1, 0, 600, 660}, {-1, 0, 1, 710, 770}, {2, 1, 2, 800, 860}};
    for (int i = 0; i < moves.length; i++) {
      for (int what = 0; what < 5; what++) due(15, "move " + i + " what " + what, x.move(0, i, what), moves[i][what]);
      for (int bad : new int[] {-1, 5, Integer.MIN_VALUE, Integer.MAX_VALUE}) due(15, "what " + bad, x.move(0, i, bad), -1);
    }
    for (int bad : new int[] {-1, 5, 6, Integer.MIN_VALUE, Integer.MAX_VALUE}) {
      for (int what = 0; what < 5; what++) due(15, "move " + bad, x.move(0, bad, what), -1);
    }
    for (int bad : new int[] {-1, 1, 4, Integer.MIN_VALUE, Integer.MAX_VALUE}) {
      for (int what = 0; what < 5; what++) due(15, "plane " + bad, x.move(bad, 0, what), -1);
    }
    x.way(0, 2, 0);
    int[] shut = {-1, 0, 2, -1, -1};
    for (int what = 0; what < 5; what++) due(15, "a leg without a way, what " + what, x.move(0, 0, what), shut[what]);
    x.way(0, 2, 600);
    due(15, "a leg that would begin ahead of 0", x.move(0, 0, 3), -130);
    due(15, "its end", x.move(0, 0, 4), 470);
    x.way(1, 2, 100);
    due(15, "a longer flight", x.move(0, 1, 4), 600);
  }

  private static void offer() {
    EmptyLegs x = line();
    x.plane(0, 9, 30, 1);
    x.flight(2, 1, 500, 1);
    due(16, "no plan", x.offer(0, 0, 1, 100), -1);
    x.plan();
    x.clock(100);
    int[][] bad = {{0, 1, 1, 100}, {0, 2, 1, 100}, {0, -1, 1, 100}, {1, 0, 1, 100}, {-1, 0, 1, 100}, {0, 0, -1, 100}, {0, 0, 1000001, 100},
        {0, 0, 1, 99}, {0, 0, 1, 10080}, {0, 0, 1, -1}, {0, Integer.MAX_VALUE, 1, 100}, {0, Integer.MIN_VALUE, 1, 100},
        {Integer.MAX_VALUE, 0, 1, 100}, {0, 0, Integer.MAX_VALUE, 100}, {0, 0, 1, Integer.MAX_VALUE}};
    for (int[] b : bad) due(16, "wrong", x.offer(b[0], b[1], b[2], b[3]), -1);
    due(16, "none yet", x.count(6), 0);
    due(16, "of this minute", x.offer(0, 0, 0, 100), 0);
    due(16, "one is open", x.offer(0, 0, 1, 200), -1);
    for (int o = 1; o < 40; o++) {
      x.clock(100 + o);
      due(16, "offer " + o, x.offer(0, 0, 1000000, o == 39 ? 10079 : 100 + o), o);
    }
    x.take(39, 0);
    due(16, "one is taken", x.offer(0, 0, 1, 9000), -1);
    x.flight(0, 2, 300, 1);
    x.flight(2, 0, 421, 1);
    x.plan();
    x.plan();
    due(16, "40 are there", x.count(6), 40);
    x.cancel(0);
    x.cancel(1);
    x.plan();
    due(16, "a leg is there", x.move(0, 0, 0) == -1 && x.move(0, 0, 1) == 0, true);
    due(16, "the 41st", x.offer(0, 0, 1, 9000), -1);
    EmptyLegs y = line();
    y.plane(0, 9, 30, 1);
    y.flight(2, 1, 500, 1);
    y.plan();
    y.way(0, 2, 0);
    due(16, "a leg without a way is one of the plan", y.offer(0, 0, 1, 1), 0);
  }

  private static void take() {
    EmptyLegs x = line();
    x.plane(0, 9, 30, 1);
    x.flight(2, 1, 500, 1);
    x.plan();
    x.offer(0, 0, 7, 100);
    for (int bad : new int[] {-1, 1, 40, Integer.MIN_VALUE, Integer.MAX_VALUE}) due(17, "offer " + bad, x.take(bad, 0), false);
    for (int bad : new int[] {-1, 100, Integer.MIN_VALUE, Integer.MAX_VALUE}) due(17, "client " + bad, x.take(0, bad), false);
    x.clock(100);
    due(17, "in its last minute", x.take(0, 99), true);
    due(17, "the second", x.take(0, 99), false);
    due(17, "the first has it", x.told(0, 3), 99);
    EmptyLegs y = line();
    y.plane(0, 9, 30, 1);
    y.flight(2, 1, 500, 1);
    y.plan();
    y.offer(0, 0, 7, 100);
    y.clock(101);
    due(17, "behind its minute", y.take(0, 0), false);
    due(17, "another", y.offer(0, 0, 7, 101), 1);
    y.cancel(0);
    due(17, "a broken one", y.take(1, 0), false);
  }

  private static void told() {
    EmptyLegs x = line();
    x.plane(3, 1, 0, 1);
    x.plane(0, 9, 30, 1);
    x.flight(0, 1, 200, 5);
    x.flight(2, 1, 500, 5);
    x.plan();
    due(18, "the leg", x.offer(1, 1, 44, 100), 0);
    int[] open = {0, 44, 100, -1, 1, 1};
    for (int what = 0; what < 6; what++) due(18, "open, what " + what, x.told(0, what), open[what]);
    for (int bad : new int[] {-1, 6, Integer.MIN_VALUE, Integer.MAX_VALUE}) due(18, "what " + bad, x.told(0, bad), -1);
    for (int bad : new int[] {-1, 1, 40, Integer.MIN_VALUE, Integer.MAX_VALUE}) {
      for (int what = 0; what < 6; what++) due(18, "offer " + bad, x.told(bad, what), -1);
    }
    x.clock(100);
    due(18, "not behind yet", x.told(0, 0), 0);
    x.clock(101);
    due(18, "lapsed", x.told(0, 0), 2);
    x.offer(1, 1, 45, 200);
    x.take(1, 3);
    x.clock(201);
    due(18, "taken is taken", x.told(1, 0), 1);
    x.plan();
    due(18, "the same leg again", x.told(1, 0), 1);
    x.way(1, 2, 61);
    due(18, "a way changes no leg", x.told(1, 0), 1);
    x.cancel(0);
    due(18, "from another field now", x.told(1, 0), 3);
    due(18, "its client", x.told(1, 3), 3);
    due(18, "a lapsed one stays so", x.told(0, 0), 2);
    x.offer(1, 0, 46, 300);
    x.flight(0, 1, 200, 5);
    x.plan();
    due(18, "an open one breaks", x.told(2, 0), 3);
    x.clock(301);
    x.cancel(2);
    x.plan();
    due(18, "once and for all", x.told(2, 0), 3);
  }

  private static void toldBehindReplan() {
    EmptyLegs x = line();
    x.plane(0, 9, 30, 1);
    x.flight(2, 1, 500, 5);
    x.flight(0, 1, 900, 5);
    x.plan();
    x.offer(0, 0, 1, 100);
    x.offer(0, 2, 1, 100);
    x.take(1, 4);
    x.replan();
    due(18, "the same legs", x.told(0, 0), 0);
    due(18, "the same legs", x.told(1, 0), 1);
    x.storm(2, 470, 471);
    due(18, "a storm changes no plan", x.told(0, 0), 0);
    due(18, "one is moved", x.replan(), 1);
    due(18, "its leg is gone", x.told(0, 0), 3);
    due(18, "the other's too, as the plane is at home", x.told(1, 0), 3);
    x.clock(101);
    due(18, "broken, not lapsed", x.told(0, 0), 3);
    EmptyLegs y = line();
    y.plane(0, 9, 30, 1);
    y.flight(2, 1, 500, 5);
    y.plan();
    y.offer(0, 0, 1, 100);
    due(18, "one is held", y.offer(0, 0, 1, 100), -1);
    y.plane(2, 9, 30, 1);
    due(18, "on the other plane", y.plan(), 1);
    due(18, "its leg is of one plane", y.told(0, 0), 3);
    y.storm(2, 500, 501);
    y.plan();
    due(18, "none is there", y.offer(0, 0, 1, 100), -1);
  }

  private static void bill() {
    EmptyLegs x = line();
    x.plane(0, 9, 30, 1000);
    x.flight(2, 1, 500, 1);
    x.flight(1, 0, 900, 1);
    due(19, "no plan", x.bill(0), -1);
    x.plan();
    due(19, "with its leg", x.bill(0), 180000);
    due(19, "without one", x.bill(1), 60000);
    x.offer(0, 0, 7, 100);
    due(19, "open", x.bill(0), 180000);
    x.take(0, 5);
    due(19, "taken, half rounded down", x.bill(0), 179997);
    due(19, "not the other's", x.bill(1), 60000);
    x.way(0, 2, 100);
    due(19, "as ways are", x.bill(0), 159997);
    x.way(0, 2, 0);
    due(19, "no way for the leg", x.bill(0), -1);
    due(19, "the other", x.bill(1), 60000);
    x.cancel(1);
    due(19, "cancelled", x.bill(1), -1);
    for (int bad : new int[] {-1, 2, 20, Integer.MIN_VALUE, Integer.MAX_VALUE}) due(19, "flight " + bad, x.bill(bad), -1);
    EmptyLegs y = line();
    y.plane(0, 9, 30, 1);
    y.flight(2, 1, 500, 1);
    y.plan();
    y.offer(0, 0, 361, 100);
    y.take(0, 0);
    due(19, "just 0", y.bill(0), 0);
    y.way(0, 2, 119);
    due(19, "never below", y.bill(0), 0);
    y.way(0, 2, 121);
    due(19, "one", y.bill(0), 1);
  }

  private static void look() {
    EmptyLegs x = line();
    x.flight(2, 1, 500, 7);
    int[] live = {2, 1, 500, 7, 0, 60};
    for (int what = 0; what < 6; what++) due(20, "what " + what, x.look(0, what), live[what]);
    x.cancel(0);
    x.way(1, 2, 77);
    int[] cancelled = {2, 1, 500, 7, 1, 77};
    for (int what = 0; what < 6; what++) due(20, "cancelled, what " + what, x.look(0, what), cancelled[what]);
    x.way(1, 2, 0);
    due(20, "without a way", x.look(0, 5), 0);
    for (int bad : new int[] {-1, 6, Integer.MIN_VALUE, Integer.MAX_VALUE}) due(20, "what " + bad, x.look(0, bad), -1);
    for (int bad : new int[] {-1, 1, 20, Integer.MIN_VALUE, Integer.MAX_VALUE}) {
      for (int what = 0; what < 6; what++) due(20, "flight " + bad, x.look(bad, what), -1);
    }
  }

  private static void count() {
    EmptyLegs x = line();
    x.plane(0, 9, 30, 1000);
    x.plane(0, 9, 30, 1000);
    x.flight(2, 1, 500, 1);
    x.flight(2, 3, 500, 1);
    x.flight(2, 3, 500, 1);
    x.flight(0, 1, 500, 1);
    x.cancel(3);
    x.plan();
    x.storm(0, 5, 6);
    x.offer(0, 0, 5, 5);
    x.clock(3);
    feedText(x, "");
    int[] due = {2, 4, 3, 2, 240, 1, 1, 3, 20};
    for (int what = 0; what < 9; what++) due(21, "what " + what, x.count(what), due[what]);
    for (int bad : new int[] {-1, 9, Integer.MIN_VALUE, Integer.MAX_VALUE}) due(21, "what " + bad, x.count(bad), -1);
    x.way(0, 2, 90);
    due(21, "empty minutes as ways are", x.count(4), 180);
    x.way(0, 2, 0);
    due(21, "legs without a way", x.count(4), 0);
    due(21, "still flown", x.count(3), 2);
  }

  public static void main(String[] args) {
    newObject();
    feed();
    law();
    rule();
    way();
    plane();
    flight();
    cancel();
    storm();
    clock();
    planMost();
    planBounds();
    planDuties();
    replan();
    fits();
    on();
    move();
    offer();
    take();
    told();
    toldBehindReplan();
    bill();
    look();
    count();
    System.out.println(asked + " answers, " + wrong + " of them not as due");
    if (wrong != 0) System.exit(1);
  }
}
