import java.nio.file.Files;
import java.nio.file.Path;

/**
 * Each sentence of the document that names a boundary (too small, too large, empty, full, a wrap-around, a refused
 * call) by a test of its own, in the document's order. A test begins with the words that it is about.
 */
public final class BoundariesTest {
  private static final int LEAST = Integer.MIN_VALUE;
  private static final int MOST = Integer.MAX_VALUE;

  private static String doc = "";
  private static String words = "";
  private static int sentences = 0;
  private static int asked = 0;
  private static int wrong = 0;

  private static String plain(String text) {
    return text.replaceAll("\\s+", " ");
  }

  /** The words must stand in the document, so that a test can't outlive what it is about. */
  private static void sentence(String quoted) {
    words = quoted;
    sentences++;
    due("the document says so", doc.isEmpty() || doc.contains(plain(quoted)), true);
  }

  private static void due(String what, long got, long want) {
    asked++;
    if (got != want) {
      wrong++;
      System.out.println("'" + words + "': " + what + " answered " + got + ", due is " + want);
    }
  }

  private static void due(String what, boolean got, boolean want) {
    due(what, got ? 1L : 0L, want ? 1L : 0L);
  }

  private static void none(String what, long got) {
    due(what, got, -1L);
  }

  /** Each three ints are two fields and the minutes of the way between them. */
  private static EmptyLegs desk(int... ways) {
    EmptyLegs x = new EmptyLegs();
    for (int i = 0; i + 2 < ways.length; i += 3) x.way(ways[i], ways[i + 1], ways[i + 2]);
    return x;
  }

  /** A plane at field 1, a flight from field 0 at 500: its leg takes 60 minutes and arrives at 470. */
  private static EmptyLegs withLeg() {
    EmptyLegs x = desk(0, 1, 60, 0, 2, 60, 1, 2, 60);
    x.plane(1, 9, 30, 10);
    x.flight(0, 2, 500, 9);
    x.plan();
    return x;
  }

  private static int feedText(EmptyLegs x, String text) {
    int[] five = new int[5];
    for (int i = 0; i < 20; i++) five[i / 4] = five[i / 4] << 8 | (i < text.length() ? text.charAt(i) & 255 : ' ');
    return x.feed(five[0], five[1], five[2], five[3], five[4]);
  }

  private static int tell(EmptyLegs x, int day, String text) {
    for (int at = 0; at == 0 || at < text.length(); at += 20) feedText(x, text.substring(at, Math.min(text.length(), at + 20)));
    return x.law(day, text.length());
  }

  // ---- What it is

  private static void calls512() {
    sentence("An object is used for at most 512 calls after it has been made");
    EmptyLegs x = new EmptyLegs();
    int calls = 0;
    for (int a = 0; a < 8; a++) for (int b = 0; b < a; b++, calls++) due("way", x.way(a, b, 10), true);
    for (int p = 0; p < 4; p++, calls++) due("plane", x.plane(p, 30, 0, 1000), p);
    for (int f = 0; f < 20; f++, calls++) {
      due("flight", x.flight(6, 7, 100 + f, 30), f);
      if (f < 12) due("cancel", x.cancel(f), true);
    }
    calls += 12;
    for (int s = 0; s < 20; s++, calls++) due("storm", x.storm(5, s, 10080), s);
    for (int o = 0; o < 40; o++, calls += 3) {
      due("plan", x.plan(), 4);
      due("offer", x.offer(o % 4, 0, 0, o), o);
      due("clock", x.clock(o + 1), true);
    }
    for (; calls < 512 - 3; calls++) due("plan", x.plan(), 4);
    due("call 510", x.replan(), 0);
    due("call 511", x.fits(), 1);
    due("call 512", x.bill(12), 20000);
  }

  // ---- Terms

  private static void minutesOfTheWeek() {
    sentence("TIME is in MINUTES of one week, 0 to 10079");
    for (int bad : new int[] {LEAST, -1, 10080, MOST}) {
      due("clock(" + bad + ")", new EmptyLegs().clock(bad), false);
      none("flight at " + bad, desk(0, 1, 10).flight(0, 1, bad, 1));
      none("storm from " + bad, new EmptyLegs().storm(0, bad, bad + 1));
      none("offer till " + bad, withLeg().offer(0, 0, 1, bad));
    }
    for (int good : new int[] {0, 10079}) {
      due("clock(" + good + ")", new EmptyLegs().clock(good), true);
      due("flight at " + good, desk(0, 1, 10).flight(0, 1, good, 1), 0);
      due("storm from " + good, new EmptyLegs().storm(0, good, good + 1), 0);
      due("offer till " + good, withLeg().offer(0, 0, 1, good), 0);
    }
  }

  /** Whether a flight of 61 minutes is flown that begins at a minute, if from a day on a duty has 60. */
  private static int flownUnder(int day, int start) {
    EmptyLegs x = desk(0, 1, 61);
    tell(x, day, "d60");
    x.plane(0, 1, 0, 1);
    x.flight(0, 1, start, 1);
    return x.plan();
  }

  private static void days() {
    sentence("a DAY has 1440 (days 0 to 6)");
    for (int day = 1; day <= 6; day++) {
      due("the last minute ahead of day " + day, flownUnder(day, day * 1440 - 1), 1);
      due("the first minute of day " + day, flownUnder(day, day * 1440), 0);
    }
    due("the first minute of day 0", flownUnder(0, 0), 0);
    due("late on day 6", flownUnder(6, 10018), 0);
    for (int bad : new int[] {LEAST, -1, 7, MOST}) {
      EmptyLegs x = new EmptyLegs();
      feedText(x, "d60");
      none("law of day " + bad, x.law(bad, 3));
      none("rule of day " + bad, x.rule(bad, 0));
    }
    for (int good : new int[] {0, 6}) {
      EmptyLegs x = new EmptyLegs();
      due("law of day " + good, tell(x, good, "d60"), 0);
      due("rule of day " + good, x.rule(good, 0), 60);
    }
  }

  private static void clockAtFirst() {
    sentence("THE CLOCK stands at 0 at first.");
    EmptyLegs x = withLeg();
    due("count(7)", x.count(7), 0);
    due("an offer till 0", x.offer(0, 0, 1, 0), 0);
    due("it is open", x.told(0, 0), 0);
    due("clock(0)", x.clock(0), true);
    due("it is open yet", x.told(0, 0), 0);
  }

  private static void fields() {
    sentence("FIELDS 0 to 7");
    for (int bad : new int[] {LEAST, -1, 8, MOST}) {
      EmptyLegs x = desk(0, 1, 10);
      due("way from " + bad, x.way(bad, 1, 10), false);
      due("way to " + bad, x.way(1, bad, 10), false);
      due("no way from " + bad, x.way(bad, 1, 0), false);
      due("no way to " + bad, x.way(1, bad, 0), false);
      none("home " + bad, x.plane(bad, 1, 0, 1));
      none("flight from " + bad, x.flight(bad, 1, 0, 1));
      none("flight to " + bad, x.flight(1, bad, 0, 1));
      none("storm at " + bad, x.storm(bad, 0, 1));
    }
    for (int good : new int[] {0, 7}) {
      EmptyLegs x = new EmptyLegs();
      due("way from " + good, x.way(good, 3, 10), true);
      due("way to " + good, x.way(4, good, 10), true);
      due("home " + good, x.plane(good, 1, 0, 1), 0);
      due("flight from " + good, x.flight(good, 3, 0, 1), 0);
      due("flight to " + good, x.flight(3, good, 0, 1), 1);
      due("storm at " + good, x.storm(good, 0, 1), 0);
    }
  }

  private static void wayMinutes() {
    sentence("between two of them a WAY takes 10 to 600 MINUTES (both ways alike), or there is none.");
    for (int bad : new int[] {LEAST, -600, -10, -1, 1, 9, 601, MOST}) {
      EmptyLegs x = desk(0, 1, 20);
      due(bad + " minutes", x.way(0, 1, bad), false);
      x.flight(1, 0, 0, 1);
      due("the way is as it was", x.look(0, 5), 20);
    }
    for (int good : new int[] {10, 600}) {
      EmptyLegs x = new EmptyLegs();
      due(good + " minutes", x.way(0, 1, good), true);
      x.flight(0, 1, 0, 1);
      x.flight(1, 0, 0, 1);
      due("there", x.look(0, 5), good);
      due("back", x.look(1, 5), good);
    }
    for (int field : new int[] {0, 7}) {
      EmptyLegs x = new EmptyLegs();
      due("from " + field + " to itself", x.way(field, field, 10), false);
      due("none from " + field + " to itself", x.way(field, field, 0), false);
      none("a flight to itself", x.flight(field, field, 0, 1));
    }
  }

  private static void planesInAll() {
    sentence("PLANES 0 to 3");
    EmptyLegs x = desk(0, 1, 10);
    for (int p = 0; p < 4; p++) due("plane", x.plane(0, 1, 0, 1), p);
    none("a fifth", x.plane(0, 1, 0, 1));
    for (int f = 0; f < 5; f++) x.flight(0, 1, 100, 1);
    due("four fly at once", x.plan(), 4);
    due("the last of them", x.on(3), 3);
    none("plane 4 has no move", x.move(4, 0, 1));
    none("nor has plane -1", x.move(-1, 0, 1));
  }

  private static void homeAtZero() {
    sentence("a HOME (where it is at 0)");
    EmptyLegs x = desk(0, 1, 10);
    x.plane(1, 1, 0, 1);
    x.flight(0, 1, 0, 1);
    due("elsewhere at 0", x.plan(), 0);
    x.flight(1, 0, 0, 1);
    due("at home at 0", x.plan(), 1);
    due("without a leg", x.count(4), 0);
  }

  private static void planeSeats() {
    sentence("each with a HOME (where it is at 0), SEATS (1 to 30)");
    for (int bad : new int[] {LEAST, -1, 0, 31, MOST}) none(bad + " seats", desk(0, 1, 10).plane(0, bad, 0, 1));
    EmptyLegs x = desk(0, 1, 10);
    due("1 seat", x.plane(0, 1, 0, 1), 0);
    due("30 seats", x.plane(0, 30, 0, 1), 1);
    x.flight(0, 1, 100, 30);
    x.plan();
    due("30 are flown by those", x.on(0), 1);
  }

  private static void planeTurn() {
    sentence("a TURN (0 to 180 MINUTES)");
    for (int bad : new int[] {LEAST, -1, 181, MOST}) none("turn " + bad, new EmptyLegs().plane(0, 1, bad, 1));
    for (int good : new int[] {0, 180}) {
      EmptyLegs x = desk(0, 1, 10);
      due("turn " + good, x.plane(1, 1, good, 1), 0);
      x.flight(0, 1, 500, 1);
      x.plan();
      due("the leg arrives", x.move(0, 0, 4), 500 - good);
    }
  }

  private static void planeRate() {
    sentence("a RATE (1 to 1000 pence for a MINUTE)");
    for (int bad : new int[] {LEAST, -1, 0, 1001, MOST}) none("rate " + bad, new EmptyLegs().plane(0, 1, 0, bad));
    for (int good : new int[] {1, 1000}) {
      EmptyLegs x = desk(0, 1, 600);
      due("rate " + good, x.plane(0, 1, 0, good), 0);
      x.flight(0, 1, 0, 1);
      x.plan();
      due("the bill", x.bill(0), 600L * good);
    }
  }

  private static void flightsInAll() {
    sentence("FLIGHTS 0 to 19: from a FIELD to another one with a WAY, a START, SEATS");
    EmptyLegs x = desk(0, 1, 10);
    for (int f = 0; f < 20; f++) {
      due("flight", x.flight(0, 1, f, 1), f);
      due("cancelled", x.cancel(f), true);
    }
    none("flight 20, though all are cancelled", x.flight(0, 1, 0, 1));
    due("the last is there", x.look(19, 2), 19);
    none("behind the last", x.look(20, 2));
    none("ahead of the first", x.look(-1, 2));
    none("to the same field", x.flight(1, 1, 0, 1));
    none("without a way", x.flight(1, 2, 0, 1));
    due("none of the 20 goes on it", x.way(0, 1, 0), true);
    EmptyLegs y = desk(0, 1, 10);
    y.plane(0, 1, 0, 1);
    for (int f = 0; f < 20; f++) {
      due("told from the last START to the first", y.flight(1 - f % 2, f % 2, 1000 - 10 * f, 1), f);
      if (f < 12) y.cancel(f);
    }
    due("the last 8 of 20 are flown", y.plan(), 8);
    due("flight 19 is the first move", y.move(0, 0, 0), 19);
    due("flight 12 is the last", y.move(0, 7, 0), 12);
    due("one of the 20 goes on it", y.way(0, 1, 0), false);
  }

  private static void flightTakesItsWay() {
    sentence("it takes the MINUTES of that WAY as they are");
    EmptyLegs x = desk(0, 1, 10);
    x.plane(0, 1, 0, 1);
    x.flight(0, 1, 0, 1);
    x.plan();
    due("at first", x.move(0, 0, 4), 10);
    due("the way takes longer", x.way(1, 0, 600), true);
    due("its end now", x.move(0, 0, 4), 600);
    due("its minutes now", x.look(0, 5), 600);
    due("its bill now", x.bill(0), 600);
  }

  private static void wayInUse() {
    sentence("(a WAY on which a FLIGHT that is not CANCELLED goes can't be taken away)");
    EmptyLegs x = desk(0, 1, 10, 1, 2, 10);
    x.flight(0, 1, 0, 1);
    x.flight(1, 0, 0, 1);
    due("two go on it", x.way(0, 1, 0), false);
    due("told the other way round", x.way(1, 0, 0), false);
    x.cancel(0);
    due("the one back goes on it", x.way(0, 1, 0), false);
    due("its minutes stay", x.look(1, 5), 10);
    x.cancel(1);
    due("both are cancelled", x.way(0, 1, 0), true);
    due("then it has none", x.look(1, 5), 0);
    EmptyLegs y = withLeg();
    due("an empty leg keeps no way", y.way(0, 1, 0), true);
  }

  private static void liveFlights() {
    sentence("One may be CANCELLED. At most 8 are there that are not.");
    EmptyLegs x = desk(0, 1, 10);
    for (int f = 0; f < 8; f++) due("flight", x.flight(0, 1, f, 1), f);
    none("a ninth", x.flight(0, 1, 8, 1));
    due("eight", x.count(2), 8);
    due("one is cancelled", x.cancel(0), true);
    due("then there is room for one", x.flight(0, 1, 8, 1), 8);
    none("and not for two", x.flight(0, 1, 9, 1));
    due("eight again", x.count(2), 8);
    due("of nine", x.count(1), 9);
  }

  private static void chainInOrder() {
    sentence("some FLIGHTS, in order of START (of like ones by number).");
    EmptyLegs x = desk(0, 1, 10);
    x.plane(0, 1, 0, 1);
    x.flight(0, 1, 300, 1);
    x.flight(1, 0, 200, 1);
    x.flight(0, 1, 100, 1);
    due("all are flown", x.plan(), 3);
    for (int i = 0; i < 3; i++) due("move " + i, x.move(0, i, 0), 2 - i);
    none("a move behind the last", x.move(0, 3, 1));
    EmptyLegs y = desk(0, 1, 10);
    y.plane(0, 1, 0, 1);
    y.plane(0, 1, 0, 1);
    y.flight(0, 1, 100, 1);
    y.flight(0, 1, 100, 1);
    due("both at once", y.plan(), 2);
    due("the first of like ones", y.on(0), 0);
    due("the second", y.on(1), 1);
  }

  private static void legWhereItIsNot() {
    sentence("ahead of a FLIGHT that begins elsewhere than the PLANE is (at HOME, or where its last FLIGHT ended) an EMPTY LEG there");
    EmptyLegs x = desk(0, 1, 10, 1, 2, 10, 0, 2, 10);
    x.plane(0, 1, 0, 1);
    x.flight(0, 1, 100, 1);
    x.flight(1, 2, 200, 1);
    x.flight(0, 1, 300, 1);
    x.plan();
    due("at home: no leg", x.move(0, 0, 0), 0);
    due("where the last ended: no leg", x.move(0, 1, 0), 1);
    none("elsewhere, though it is home: a leg", x.move(0, 2, 0));
    due("from where the last ended", x.move(0, 2, 1), 2);
    due("to where the flight begins", x.move(0, 2, 2), 0);
    due("then the flight", x.move(0, 3, 0), 2);
    x.cancel(0);
    none("the first begins elsewhere now", x.move(0, 0, 0));
    due("from home", x.move(0, 0, 1), 0);
    due("to it", x.move(0, 0, 2), 1);
  }

  private static void legIsLate() {
    sentence("as late as can be: it arrives TURN ahead of the START; then the FLIGHT.");
    for (int turn : new int[] {0, 1, 180}) {
      EmptyLegs x = desk(0, 1, 60);
      x.plane(1, 1, turn, 1);
      x.flight(0, 1, 1000, 1);
      x.plan();
      due("the leg begins", x.move(0, 0, 3), 940 - turn);
      due("the leg ends", x.move(0, 0, 4), 1000 - turn);
      due("the flight begins", x.move(0, 1, 3), 1000);
      due("the flight ends", x.move(0, 1, 4), 1060);
    }
  }

  private static void seatsEnough() {
    sentence("the PLANE has SEATS enough for each");
    for (int seats = 1; seats <= 30; seats++) {
      EmptyLegs x = desk(0, 1, 10);
      x.plane(0, seats, 0, 1);
      x.flight(0, 1, 100, seats);
      due("as many", x.plan(), 1);
      EmptyLegs y = desk(0, 1, 10);
      y.plane(0, seats, 0, 1);
      due("one more", y.flight(0, 1, 100, seats + 1) < 0 || y.plan() == 0, true);
    }
  }

  /** One plane at home 1 with a turn of 30, one flight from 0 that takes 60 as its leg does. */
  private static int flownWithLeg(int start) {
    EmptyLegs x = desk(0, 1, 60);
    x.plane(1, 1, 30, 1);
    x.flight(0, 1, start, 1);
    return x.plan();
  }

  private static void movesWithinTheWeek() {
    sentence("all MOVES begin at 0 or behind, end at 10079 or ahead");
    due("a leg from 0", flownWithLeg(90), 1);
    due("a leg from -1", flownWithLeg(89), 0);
    due("a flight that ends at 10079", flownWithLeg(10019), 1);
    due("one that ends at 10080", flownWithLeg(10020), 0);
    due("one of the last minute", flownWithLeg(10079), 0);
    EmptyLegs x = desk(0, 1, 10);
    x.plane(0, 1, 180, 1);
    x.flight(0, 1, 0, 1);
    due("a flight from 0 without a leg", x.plan(), 1);
    EmptyLegs y = desk(0, 1, 60);
    y.plane(1, 1, 30, 1);
    y.flight(0, 1, 90, 1);
    y.plan();
    y.way(0, 1, 61);
    due("the leg at hand begins at -1 now", y.fits(), 0);
    EmptyLegs z = desk(0, 1, 60);
    z.plane(0, 1, 30, 1);
    z.flight(0, 1, 10019, 1);
    z.plan();
    z.way(0, 1, 61);
    due("the flight at hand ends at 10080 now", z.fits(), 0);
  }

  private static void waysForLegs() {
    sentence("there are WAYS for the EMPTY LEGS");
    EmptyLegs x = desk(0, 1, 10);
    x.plane(2, 1, 0, 1);
    x.flight(0, 1, 500, 1);
    due("no way from home", x.plan(), 0);
    x.way(2, 1, 10);
    due("one to where it ends", x.plan(), 0);
    x.way(0, 2, 10);
    due("one to where it begins", x.plan(), 1);
    x.way(0, 2, 0);
    due("it is taken away", x.fits(), 0);
    due("the flight can't be flown", x.plan(), 0);
  }

  /** Whether both are flown: a flight from 0 to 1 that ends at 100, and one back that begins later. */
  private static int flownBehind(int turn, int start) {
    EmptyLegs x = desk(0, 1, 60);
    x.plane(0, 1, turn, 1);
    x.flight(0, 1, 40, 1);
    x.flight(1, 0, start, 1);
    return x.plan();
  }

  /** The same, but the second begins where the first began, so that a leg of 60 lies between. */
  private static int flownBehindLeg(int turn, int start) {
    EmptyLegs x = desk(0, 1, 60);
    x.plane(0, 1, turn, 1);
    x.flight(0, 1, 40, 1);
    x.flight(0, 1, start, 1);
    return x.plan();
  }

  private static void turnBetweenMoves() {
    sentence("each MOVE but the first begins TURN or more behind the end of the one before");
    for (int turn : new int[] {0, 1, 30, 180}) {
      due("TURN behind", flownBehind(turn, 100 + turn), 2);
      due("one less", flownBehind(turn, 99 + turn), 1);
      due("a leg TURN behind", flownBehindLeg(turn, 160 + 2 * turn), 2);
      due("a leg one less", flownBehindLeg(turn, 159 + 2 * turn), 1);
    }
    EmptyLegs x = desk(0, 1, 10);
    x.plane(0, 1, 180, 1);
    x.flight(0, 1, 0, 1);
    due("but the first", x.plan(), 1);
  }

  /** Whether withLeg's plan fits by one storm: the leg goes 1 to 0 from 410 to 470, the flight 0 to 2 from 500 to 560. */
  private static int fitsBy(int field, int from, int to) {
    EmptyLegs x = withLeg();
    x.storm(field, from, to);
    return x.fits();
  }

  private static void storms() {
    sentence("no MOVE begins or ends at a FIELD in a MINUTE of a STORM there (from a MINUTE on, up to another one, that not counted");
    int[][] touched = {{1, 410}, {0, 470}, {0, 500}, {2, 560}};
    for (int[] t : touched) {
      String where = "at field " + t[0] + ", minute " + t[1];
      due(where + " alone", fitsBy(t[0], t[1], t[1] + 1), 0);
      due(where + " the first of a storm", fitsBy(t[0], t[1], t[1] + 9), 0);
      due(where + " the last of a storm", fitsBy(t[0], t[1] - 9, t[1] + 1), 0);
      due(where + " not counted any more", fitsBy(t[0], t[1] - 9, t[1]), 1);
      due(where + " not yet", fitsBy(t[0], t[1] + 1, t[1] + 9), 1);
    }
    due("where the leg goes, as it begins", fitsBy(0, 410, 411), 1);
    due("where the leg came from, as it ends", fitsBy(1, 470, 471), 1);
    due("where the flight goes, as it begins", fitsBy(2, 500, 501), 1);
    due("where the flight came from, as it ends", fitsBy(0, 560, 561), 1);
    due("between begin and end, at both", fitsBy(0, 471, 500), 1);
    due("elsewhere all the week", fitsBy(3, 0, 10080), 1);
    EmptyLegs x = desk(0, 1, 10);
    x.plane(0, 1, 0, 1);
    x.flight(0, 1, 0, 1);
    x.flight(1, 0, 10069, 1);
    due("from 0 and up to 10079", x.plan(), 2);
    x.storm(0, 10079, 10080);
    due("the last minute is shut", x.plan(), 1);
    x.storm(0, 0, 1);
    due("the first minute is shut", x.replan(), 1);
    due("then none is flown", x.count(3), 0);
  }

  private static void stormsInAll() {
    sentence("20 STORMS at most)");
    EmptyLegs x = withLeg();
    for (int s = 0; s < 19; s++) due("storm", x.storm(3, s, 10080), s);
    due("it fits yet", x.fits(), 1);
    due("the twentieth", x.storm(2, 560, 561), 19);
    due("it counts", x.fits(), 0);
    none("one more", x.storm(2, 560, 561));
    due("twenty", x.count(5), 20);
  }

  /** Two flights of 60, one from 100 and one back some minutes behind its end: how many are flown by a text. */
  private static int flownBy(String text, int gap) {
    EmptyLegs x = desk(0, 1, 60);
    tell(x, 0, text);
    x.plane(0, 1, 0, 1);
    x.flight(0, 1, 100, 1);
    x.flight(1, 0, 160 + gap, 1);
    return x.plan();
  }

  private static void rest() {
    sentence("a DUTY is a row of MOVES; a MOVE that begins less than REST behind the end of the one before is of the same DUTY, else it begins one.");
    due("REST behind", flownBy("d60;r300", 300), 2);
    due("one less", flownBy("d60;r300", 299), 1);
    due("a REST of 0: each begins one", flownBy("d60;r0", 0), 2);
    due("a REST of 1", flownBy("d60;r1", 0), 1);
    due("a REST of 1, one behind", flownBy("d60;r1", 1), 2);
    due("a REST of 9999", flownBy("d9999;r9999", 9000), 2);
    due("a REST of 9999 in a short DUTY", flownBy("d9119;r9999", 9000), 1);
    EmptyLegs x = desk(0, 1, 60);
    tell(x, 0, "d60;r30");
    x.plane(1, 1, 30, 1);
    x.flight(0, 1, 500, 1);
    due("a leg REST ahead of its flight", x.plan(), 1);
    tell(x, 0, "d60;r31");
    due("one less", x.plan(), 0);
  }

  private static void duty() {
    sentence("From the begin of its first MOVE to the end of its last there are at most DUTY MINUTES.");
    due("just DUTY", flownBy("d220;r600", 100), 2);
    due("one more", flownBy("d219;r600", 100), 1);
    due("one flight of just DUTY", flownBy("d60;r600", 100), 1);
    EmptyLegs x = desk(0, 1, 61);
    tell(x, 0, "d60");
    x.plane(0, 1, 0, 1);
    x.flight(0, 1, 100, 1);
    due("one flight of one more", x.plan(), 0);
    EmptyLegs y = withLeg();
    tell(y, 0, "d150");
    due("from the begin of its leg", y.fits(), 1);
    tell(y, 0, "d149");
    due("one more", y.fits(), 0);
    EmptyLegs z = desk(0, 1, 10);
    tell(z, 0, "d9999;r9999");
    z.plane(0, 1, 0, 1);
    z.flight(0, 1, 0, 1);
    z.flight(1, 0, 9989, 1);
    due("a DUTY of 9999", z.plan(), 2);
    z.cancel(1);
    z.flight(1, 0, 9990, 1);
    due("one more", z.plan(), 1);
    EmptyLegs w = new EmptyLegs();
    w.way(0, 1, 400);
    w.plane(0, 1, 40, 1);
    w.flight(0, 1, 0, 1);
    w.flight(1, 0, 440, 1);
    due("840 at first", w.plan(), 2);
    w.cancel(1);
    w.flight(1, 0, 441, 1);
    due("841", w.plan(), 1);
    w.cancel(2);
    w.flight(1, 0, 999, 1);
    due("599 behind", w.plan(), 1);
    w.flight(1, 0, 1000, 1);
    due("600 behind", w.plan(), 2);
  }

  private static void lawOfTheFirstMove() {
    sentence("DUTY and REST are those of THE LAW in force on the day on which the first MOVE of it begins.");
    for (int start : new int[] {1529, 1530}) {
      EmptyLegs x = desk(0, 1, 60);
      tell(x, 1, "d149");
      x.plane(1, 1, 30, 1);
      x.flight(0, 1, start, 1);
      due("its leg begins at " + (start - 90), x.plan(), start == 1529 ? 1 : 0);
    }
    EmptyLegs x = desk(0, 1, 60);
    tell(x, 0, "d60;r100");
    tell(x, 1, "d120;r200");
    x.plane(0, 1, 0, 1);
    x.flight(0, 1, 1370, 1);
    x.flight(1, 0, 1530, 1);
    due("100 behind, by the REST of the day ahead", x.plan(), 2);
    x.cancel(1);
    x.flight(1, 0, 1529, 1);
    due("99 behind", x.plan(), 1);
    x.cancel(2);
    x.flight(1, 0, 1530, 1);
    x.flight(0, 1, 1590, 1);
    due("the second DUTY has the DUTY of its day", x.plan(), 3);
    x.cancel(4);
    x.flight(0, 1, 1591, 1);
    due("and its REST", x.plan(), 2);
  }

  private static void lawAtFirst() {
    sentence("THE LAW: TEXTS, each in force from a day on (at first one from day 0: d840;r600)");
    EmptyLegs x = new EmptyLegs();
    for (int day = 0; day < 7; day++) {
      due("DUTY of day " + day, x.rule(day, 0), 840);
      due("REST of day " + day, x.rule(day, 1), 600);
    }
    tell(x, 0, "r5");
    due("a text of day 0 without d", x.rule(0, 0), 840);
    tell(x, 0, "d99");
    due("a text of day 0 without r", x.rule(0, 1), 600);
    due("its d", x.rule(0, 0), 99);
  }

  private static void told(String text, int answer, int duty, int rest) {
    EmptyLegs x = new EmptyLegs();
    due("'" + text + "'", tell(x, 0, text), answer);
    due("DUTY by '" + text + "'", x.rule(0, 0), duty);
    due("REST by '" + text + "'", x.rule(0, 1), rest);
  }

  private static void fault(String text, int answer) {
    told(text, answer, 840, 600);
  }

  private static void clauses() {
    sentence("CLAUSES with a ; between, each a letter (d or r) and a number of one to four digits, no blanks");
    told("r0", 0, 840, 0);
    told("r12", 0, 840, 12);
    told("r123", 0, 840, 123);
    told("r1234", 0, 840, 1234);
    told("r0000", 0, 840, 0);
    told("d0060", 0, 60, 600);
    told("r7;d77", 0, 77, 7);
    told("d77;r7", 0, 77, 7);
    told("d1000;r1000;d2000;r2000;d3000;r300;d4000", 0, 4000, 300);
    fault(" d60", 100);
    fault("d 60", 201);
    fault("d6 0", 301);
    fault("d60 ", 403);
    fault("d60 ;r5", 403);
    fault("d60; r5", 104);
    fault("d60\0", 403);
  }

  private static void dutyNumbers() {
    sentence("d DUTY (60 to 9999)");
    fault("d0", 301);
    fault("d6", 301);
    fault("d59", 301);
    told("d60", 0, 60, 600);
    told("d9999", 0, 9999, 600);
    fault("d10000", 301);
  }

  private static void restNumbers() {
    sentence("r REST (0 to 9999)");
    told("r0", 0, 840, 0);
    told("r9999", 0, 840, 9999);
    fault("r10000", 301);
    fault("r-1", 201);
  }

  private static void untold() {
    sentence("What a TEXT doesn't tell is as in the one ahead of it by days.");
    EmptyLegs x = new EmptyLegs();
    tell(x, 6, "r6");
    tell(x, 3, "d300");
    due("day 6 as day 3", x.rule(6, 0), 300);
    due("day 3 as day 0", x.rule(3, 1), 600);
    tell(x, 5, "d500;r5");
    due("day 6 as day 5", x.rule(6, 0), 500);
    due("its own", x.rule(6, 1), 6);
    tell(x, 0, "d100;r1");
    due("day 3 as day 0 now", x.rule(3, 1), 1);
    due("day 4 has no text", x.rule(4, 0), 300);
    due("day 2 has no text", x.rule(2, 0), 100);
    due("day 6 as day 5 yet", x.rule(6, 0), 500);
  }

  private static void twoOfOneDay() {
    sentence("Of two of one day the later told one takes the place of the other.");
    EmptyLegs x = new EmptyLegs();
    for (int day : new int[] {0, 6}) {
      tell(x, day, "d100;r10");
      tell(x, day, "d200");
      due("the later", x.rule(day, 0), 200);
      due("nothing of the other is left", x.rule(day, 1), 600);
      due("a fault takes no place", tell(x, day, "d300;r"), 206);
      due("the later yet", x.rule(day, 0), 200);
    }
  }

  private static void firstFault() {
    sentence("FAULTS, the first from the left");
    fault("x60;y", 100);
    fault("d;d59;r5x", 201);
    fault("d59x", 301);
    fault("d59;", 301);
    fault("d60x;d59", 403);
    fault("d60;r5;d59;x", 308);
    fault("d60;r99999x", 305);
  }

  private static void noLetter() {
    sentence("1 no d or r there");
    for (String sign : new String[] {"c", "e", "q", "s", "D", "R", ";", "0", " ", "\0", (char) 255 + ""}) {
      fault(sign, 100);
      fault(sign + "60", 100);
      fault("r1;" + sign + "60", 103);
    }
    fault("", 100);
    EmptyLegs x = new EmptyLegs();
    due("an empty text on an empty tape", x.law(0, 0), 100);
    fault("r1;r1;r1;r1;r1;r1;r1;r1;r1;r1;r1;r1;r1;x", 139);
  }

  private static void noDigit() {
    sentence("2 no digit there");
    for (String sign : new String[] {"/", ":", ";", "d", "r", "-1", "+1", " 60", "\0", (char) 255 + ""}) {
      fault("d" + sign, 201);
      fault("r" + sign, 201);
      fault("r1;d" + sign, 204);
    }
    fault("d", 201);
    fault("r", 201);
    fault("r1;r1;r1;r1;r1;r1;r1;r1;r1;r1;r1;r1;r1;r", 240);
  }

  private static void wrongNumber() {
    sentence("3 a number that it can't be (at its first digit; a fifth digit, too)");
    fault("d59", 301);
    fault("d0000", 301);
    fault("d00060", 301);
    fault("r00000", 301);
    fault("r12345", 301);
    fault("r123456789", 301);
    fault("r1234567890123456789", 301);
    fault("d60;d59", 305);
    fault("r1;r1;r1;r1;r1;r1;r1;r1;r1;r1;r1;r12345", 334);
  }

  private static void behindAClause() {
    sentence("4 something else than ; or the end behind a CLAUSE");
    for (String sign : new String[] {"x", ":", ",", "d", "r", " ", "/", "-", "\0", (char) 255 + ""}) {
      fault("d60" + sign, 403);
      fault("r0" + sign + "d60", 402);
      fault("r1234" + sign, 405);
    }
    fault("r1;r1;r1;r1;r1;r1;r1;r1;r1;r1;r1;r1;r1x", 438);
    fault("r1;r1;r1;r1;r1;r1;r1;r1;r1;r1;r1;r1;r12x", 439);
  }

  private static void endBehindSemicolon() {
    sentence("(the end behind a ; is fault 1)");
    fault("d60;", 104);
    fault("r0;", 103);
    fault("d60;r0;", 107);
    fault(";", 100);
    fault("r1;r1;r1;r1;r1;r1;r1;r1;r1;r1;r1;r1;r12;", 140);
  }

  // ---- THE PLAN

  private static void planFitsByAllChains() {
    sentence("A PLAN gives FLIGHTS that are not CANCELLED to PLANES, or leaves them UNFLOWN; it FITS if all CHAINS do.");
    for (int shut = 0; shut < 4; shut++) {
      EmptyLegs x = desk(0, 4, 10, 1, 4, 10, 2, 4, 10, 3, 4, 10);
      for (int p = 0; p < 4; p++) x.plane(p, 1, 0, 1);
      for (int f = 0; f < 4; f++) x.flight(f, 4, 100, 1);
      due("all", x.plan(), 4);
      due("all fit", x.fits(), 1);
      x.storm(shut, 100, 101);
      due("all but " + shut, x.fits(), 0);
    }
    EmptyLegs none = new EmptyLegs();
    due("no chain at all", none.fits(), 1);
    EmptyLegs later = desk(0, 1, 10);
    later.plane(0, 1, 0, 1);
    later.flight(0, 1, 100, 1);
    later.flight(1, 0, 200, 1);
    later.plan();
    later.storm(0, 210, 211);
    due("the last move of a chain", later.fits(), 0);
  }

  private static void mostFlown() {
    sentence("that with most FLIGHTS flown");
    EmptyLegs x = desk(0, 2, 10, 1, 2, 600, 1, 3, 240);
    x.plane(0, 1, 0, 1);
    x.flight(0, 2, 100, 1);
    x.flight(1, 3, 2000, 1);
    due("both, though a leg of 600 is long", x.plan(), 2);
    due("its leg", x.count(4), 600);
    EmptyLegs none = desk(0, 1, 10);
    due("no flight", none.plan(), 0);
    none.flight(0, 1, 100, 1);
    due("no plane", none.plan(), 0);
    EmptyLegs full = desk(0, 1, 10);
    for (int p = 0; p < 4; p++) full.plane(p % 2, 1, 0, 1);
    for (int f = 0; f < 8; f++) full.flight(f % 2, 1 - f % 2, 100 + f / 4 * 10, 1);
    due("8 by 4", full.plan(), 8);
    due("without a leg", full.count(4), 0);
    EmptyLegs one = desk(0, 1, 10);
    one.plane(1, 1, 0, 1);
    for (int f = 0; f < 8; f++) one.flight(0, 1, 100 + 20 * f, 1);
    due("8 by 1, each with a leg", one.plan(), 8);
    due("legs", one.count(4), 80);
    due("move 15", one.move(0, 15, 0), 7);
    none("move 14 is a leg", one.move(0, 14, 0));
    due("from", one.move(0, 14, 1), 1);
    none("move 16", one.move(0, 16, 1));
  }

  private static void fewestEmpty() {
    sentence("of like ones with fewest MINUTES of EMPTY LEGS");
    for (int second : new int[] {59, 60, 61}) {
      EmptyLegs x = desk(0, 1, 60, 0, 2, second, 0, 3, 60);
      x.plane(1, 1, 0, 1);
      x.plane(2, 1, 0, 1);
      x.flight(0, 3, 500, 1);
      x.plan();
      due("a leg of 60 or " + second, x.on(0), second < 60 ? 1 : 0);
      due("the least", x.count(4), Math.min(60, second));
    }
    EmptyLegs y = desk(0, 1, 60, 0, 2, 60);
    y.plane(0, 1, 0, 1);
    y.flight(1, 0, 500, 1);
    y.flight(0, 1, 520, 1);
    y.plan();
    due("the later one has no leg", y.on(1), 0);
    due("so the earlier one is not flown", y.on(0), -1);
    EmptyLegs z = desk(0, 1, 10, 1, 3, 10, 2, 0, 20, 4, 0, 10, 5, 1, 10);
    z.plane(2, 5, 0, 1);
    z.plane(4, 1, 0, 1);
    z.plane(5, 5, 0, 1);
    z.flight(0, 1, 500, 1);
    z.flight(1, 3, 700, 5);
    z.plan();
    due("one leg of 20 is like two of 10", z.on(0), 0);
    due("so the row says", z.on(1), 0);
    z.way(2, 0, 21);
    z.plan();
    due("one of 21 is not", z.on(0), 1);
    due("two of 10", z.on(1), 2);
  }

  private static void leastRow() {
    sentence("of like ones the least row: FLIGHTS in order of START (then number), each by its PLANE's number, UNFLOWN 9.");
    EmptyLegs x = desk(0, 1, 10);
    for (int p = 0; p < 4; p++) x.plane(0, p == 3 ? 9 : 1, 0, 1);
    x.flight(0, 1, 101, 9);
    x.flight(0, 1, 100, 9);
    x.flight(0, 1, 100, 9);
    due("one plane has the seats", x.plan(), 1);
    due("3 ahead of UNFLOWN, by START then number", x.on(1), 3);
    due("UNFLOWN", x.on(0), -1);
    EmptyLegs y = desk(0, 1, 10);
    for (int p = 0; p < 4; p++) y.plane(0, 1, 0, 1);
    for (int f = 0; f < 4; f++) y.flight(0, 1, 103 - f, 1);
    y.plan();
    for (int f = 0; f < 4; f++) due("by START, not by number", y.on(f), 3 - f);
    EmptyLegs z = desk(0, 1, 10);
    for (int p = 0; p < 4; p++) z.plane(0, 1, 0, 1);
    for (int f = 0; f < 8; f++) z.flight(f % 2, 1 - f % 2, 100 + 10 * f, 1);
    due("all by one", z.plan(), 8);
    for (int f = 0; f < 8; f++) due("the first PLANE", z.on(f), 0);
  }

  private static void leastChangedMostFlown() {
    sentence("THE LEAST CHANGED: with most flown");
    EmptyLegs x = desk(0, 1, 10);
    x.plane(0, 9, 0, 1);
    x.flight(0, 1, 100, 1);
    x.plan();
    x.plane(0, 1, 0, 1);
    x.flight(0, 1, 100, 9);
    due("one is moved, so that both are flown", x.replan(), 1);
    due("the one at hand", x.on(0), 1);
    due("the other", x.on(1), 0);
    EmptyLegs y = desk(0, 1, 10, 0, 2, 600);
    y.plane(0, 9, 0, 1);
    for (int f = 0; f < 7; f++) y.flight(f % 2, 1 - f % 2, 100 + 10 * f, 1);
    due("7 by one", y.plan(), 7);
    y.plane(0, 1, 0, 1);
    y.flight(0, 2, 100, 9);
    due("all 7 are moved, so that one more is flown", y.replan(), 7);
    due("8 are flown", y.count(3), 8);
    due("the new one", y.on(7), 0);
  }

  private static void leastChangedFewestMoved() {
    sentence("of like ones with the fewest FLIGHTS that the PLAN at hand has on a PLANE and this one has on another one or UNFLOWN; then as above.");
    EmptyLegs x = withLeg();
    x.plane(0, 9, 30, 10);
    due("not moved for fewer empty minutes", x.replan(), 0);
    due("with its leg", x.count(4), 60);
    x.storm(1, 410, 411);
    due("moved to another one", x.replan(), 1);
    due("the other", x.on(0), 1);
    x.storm(0, 500, 501);
    due("moved to UNFLOWN", x.replan(), 1);
    due("UNFLOWN", x.on(0), -1);
    due("UNFLOWN stays so: none is moved", x.replan(), 0);
    EmptyLegs y = desk(0, 1, 10, 0, 2, 11, 0, 3, 11);
    y.plane(0, 1, 0, 1);
    y.plane(2, 1, 0, 1);
    y.plane(1, 1, 0, 1);
    y.plane(1, 1, 0, 1);
    y.flight(0, 1, 500, 1);
    y.plan();
    y.flight(0, 3, 500, 1);
    due("a new one is not moved", y.replan(), 0);
    due("then fewest empty minutes, then the least row", y.on(1), 2);
    y.cancel(0);
    due("a cancelled one is not moved", y.replan(), 0);
    due("the other stays", y.on(1), 2);
    EmptyLegs full = desk(0, 1, 10, 2, 3, 10, 0, 2, 10);
    full.plane(0, 1, 0, 1);
    for (int f = 0; f < 8; f++) full.flight(f % 2, 1 - f % 2, 100 + 10 * f, 1);
    due("8 at hand", full.plan(), 8);
    tell(full, 0, "d80;r0");
    due("none is moved", full.replan(), 0);
    full.storm(0, 0, 10080);
    full.storm(1, 0, 10080);
    due("all 8 are moved", full.replan(), 8);
    due("none is flown", full.count(3), 0);
    mostEmptyMinutes();
  }

  /** Eight legs of 600 minutes are kept rather than one flight moved. */
  private static void mostEmptyMinutes() {
    EmptyLegs x = desk(0, 1, 10, 2, 3, 10, 1, 2, 600, 0, 3, 600, 0, 4, 600);
    tell(x, 0, "d600;r0");
    x.plane(4, 1, 0, 1);
    for (int f = 0; f < 8; f++) x.flight(f % 2 * 2, f % 2 * 2 + 1, 600 + 610 * f, 1);
    due("8 by one", x.plan(), 8);
    due("8 legs of 600", x.count(4), 4800);
    x.plane(0, 1, 0, 1);
    x.plane(2, 1, 0, 1);
    due("none is moved", x.replan(), 0);
    due("8 legs of 600 yet", x.count(4), 4800);
    due("the best", x.plan(), 8);
    due("has 6 legs of 10", x.count(4), 60);
    due("none is moved", x.replan(), 0);
  }

  private static void noneAtFirst() {
    sentence("THE PLAN at hand has none at first");
    EmptyLegs x = desk(0, 1, 10);
    x.plane(0, 1, 0, 1);
    x.flight(0, 1, 100, 1);
    none("on", x.on(0));
    none("move", x.move(0, 0, 0));
    none("bill", x.bill(0));
    due("flown", x.count(3), 0);
    due("empty minutes", x.count(4), 0);
    due("fits", x.fits(), 1);
    due("none is moved", x.replan(), 0);
    due("on", x.on(0), 0);
  }

  private static void toldLater() {
    sentence("what is told later (FLIGHTS, STORMS, LAWS, WAYS) does not change it: it may FIT no more.");
    EmptyLegs x = withLeg();
    x.flight(1, 2, 100, 1);
    none("a flight", x.on(1));
    none("its leg yet", x.move(0, 0, 0));
    due("it fits", x.fits(), 1);
    EmptyLegs y = withLeg();
    y.storm(0, 500, 501);
    due("a storm", y.on(0), 0);
    due("it fits no more", y.fits(), 0);
    EmptyLegs z = withLeg();
    tell(z, 0, "d60");
    due("a law", z.on(0), 0);
    due("it fits no more", z.fits(), 0);
    EmptyLegs w = withLeg();
    w.way(0, 1, 0);
    due("a way", w.on(0), 0);
    none("its leg yet", w.move(0, 0, 0));
    due("from", w.move(0, 0, 1), 1);
    due("it fits no more", w.fits(), 0);
    w.way(0, 1, 440);
    due("it fits again", w.fits(), 1);
  }

  private static void cancelledIsOut() {
    sentence("A CANCELLED FLIGHT is out of it.");
    EmptyLegs x = desk(0, 1, 60);
    x.plane(0, 1, 0, 1);
    x.flight(0, 1, 60, 1);
    x.flight(1, 0, 120, 1);
    x.plan();
    due("flown", x.count(3), 2);
    x.cancel(0);
    none("on", x.on(0));
    none("bill", x.bill(0));
    due("flown", x.count(3), 1);
    due("the other has a leg", x.count(4), 60);
    due("it fits", x.fits(), 1);
    x.cancel(1);
    due("none is flown", x.count(3), 0);
    none("no move", x.move(0, 0, 1));
    due("an empty plan fits", x.fits(), 1);
    due("and is planned so", x.plan(), 0);
  }

  // ---- OFFERS

  private static void offerPrice() {
    sentence("AN OFFER is of an EMPTY LEG of the PLAN at hand: a price (0 to 1000000 pence), till a MINUTE. It is OPEN");
    for (int bad : new int[] {LEAST, -1, 1000001, MOST}) none("price " + bad, withLeg().offer(0, 0, bad, 100));
    for (int good : new int[] {0, 1000000}) {
      EmptyLegs x = withLeg();
      due("price " + good, x.offer(0, 0, good, 100), 0);
      due("it is open", x.told(0, 0), 0);
      due("told", x.told(0, 1), good);
      due("till", x.told(0, 2), 100);
    }
  }

  private static void takenByTheFirst() {
    sentence("TAKEN by a client (0 to 99), the first who comes while THE CLOCK is not behind that MINUTE");
    for (int bad : new int[] {LEAST, -1, 100, MOST}) {
      EmptyLegs x = withLeg();
      x.offer(0, 0, 1, 100);
      due("client " + bad, x.take(0, bad), false);
      due("it is open yet", x.told(0, 0), 0);
      none("no client", x.told(0, 3));
    }
    for (int good : new int[] {0, 99}) {
      EmptyLegs x = withLeg();
      x.offer(0, 0, 1, 100);
      x.clock(100);
      due("client " + good + " in the last minute", x.take(0, good), true);
      due("another", x.take(0, 50), false);
      due("the same again", x.take(0, good), false);
      due("the first", x.told(0, 3), good);
    }
    EmptyLegs late = withLeg();
    late.offer(0, 0, 1, 100);
    late.clock(101);
    due("a minute behind", late.take(0, 0), false);
    none("no client", late.told(0, 3));
  }

  private static void lapsed() {
    sentence("LAPSED when THE CLOCK is behind it");
    EmptyLegs x = withLeg();
    x.offer(0, 0, 1, 100);
    due("clock(100)", x.clock(100), true);
    due("open in its minute", x.told(0, 0), 0);
    due("clock(99) is refused", x.clock(99), false);
    due("clock(101)", x.clock(101), true);
    due("lapsed behind it", x.told(0, 0), 2);
    EmptyLegs y = withLeg();
    y.offer(0, 0, 1, 100);
    y.take(0, 7);
    y.clock(10079);
    due("a taken one never lapses", y.told(0, 0), 1);
    EmptyLegs z = withLeg();
    z.offer(0, 0, 1, 10079);
    z.clock(10079);
    due("one of the last minute never lapses", z.told(0, 0), 0);
    due("it may be taken then", z.take(0, 7), true);
  }

  private static void broken() {
    sentence("BROKEN, if it is OPEN or TAKEN and the PLAN at hand has its EMPTY LEG no more");
    EmptyLegs x = withLeg();
    x.offer(0, 0, 1, 100);
    x.cancel(0);
    due("an open one", x.told(0, 0), 3);
    EmptyLegs y = withLeg();
    y.offer(0, 0, 1, 100);
    y.take(0, 7);
    y.cancel(0);
    due("a taken one", y.told(0, 0), 3);
    EmptyLegs z = withLeg();
    z.offer(0, 0, 1, 100);
    z.clock(101);
    z.cancel(0);
    due("a lapsed one is not broken", z.told(0, 0), 2);
    EmptyLegs w = withLeg();
    w.offer(0, 0, 1, 100);
    w.storm(0, 500, 501);
    w.way(0, 1, 0);
    tell(w, 0, "d60");
    due("the plan at hand has it yet", w.told(0, 0), 0);
    w.replan();
    due("a plan without it", w.told(0, 0), 3);
    EmptyLegs v = withLeg();
    v.offer(0, 0, 1, 100);
    v.plan();
    v.replan();
    due("plans with it", v.told(0, 0), 0);
  }

  private static void sameLeg() {
    sentence("(the same PLANE from the same FIELD to the same one ahead of the same FLIGHT)");
    EmptyLegs x = withLeg();
    x.plane(1, 9, 20, 10);
    x.offer(0, 0, 1, 100);
    x.storm(0, 470, 471);
    due("another PLANE from the same FIELD", x.replan(), 1);
    due("broken", x.told(0, 0), 3);
    due("the other's leg is as long", x.count(4), 60);
    EmptyLegs y = withLeg();
    y.offer(0, 0, 1, 100);
    y.flight(1, 2, 200, 9);
    y.plan();
    due("the leg is from 2 now", y.move(0, 1, 1), 2);
    due("from another FIELD", y.told(0, 0), 3);
    EmptyLegs z = withLeg();
    z.offer(0, 0, 1, 100);
    z.flight(0, 2, 510, 9);
    z.storm(0, 500, 501);
    due("another FLIGHT from the same FIELD", z.replan(), 1);
    due("by the same PLANE", z.on(1), 0);
    due("broken", z.told(0, 0), 3);
    EmptyLegs w = withLeg();
    w.offer(0, 0, 1, 100);
    w.flight(2, 1, 700, 9);
    w.plan();
    due("a FLIGHT behind it changes no leg", w.told(0, 0), 0);
    w.way(0, 1, 70);
    w.plan();
    due("nor does a longer way", w.told(0, 0), 0);
  }

  private static void onceAndForAll() {
    sentence("once and for all.");
    EmptyLegs x = withLeg();
    x.offer(0, 0, 1, 100);
    x.storm(3, 0, 1);
    x.flight(1, 2, 200, 9);
    x.plan();
    due("broken", x.told(0, 0), 3);
    x.cancel(1);
    due("the leg is back", x.move(0, 0, 1), 1);
    due("broken yet", x.told(0, 0), 3);
    x.clock(101);
    due("it doesn't lapse", x.told(0, 0), 3);
    due("nor is it taken", x.take(0, 1), false);
    due("the leg may be offered again", x.offer(0, 0, 1, 200), 1);
    due("the new one is open", x.told(1, 0), 0);
  }

  private static void oneOffer() {
    sentence("For one EMPTY LEG there is one OFFER at most that is OPEN or TAKEN.");
    EmptyLegs x = withLeg();
    x.flight(0, 1, 900, 9);
    x.plan();
    due("one", x.offer(0, 0, 1, 100), 0);
    none("one is open", x.offer(0, 0, 2, 200));
    due("of another leg", x.offer(0, 2, 1, 300), 1);
    x.clock(101);
    due("one is lapsed", x.offer(0, 0, 3, 300), 2);
    x.take(2, 5);
    none("one is taken", x.offer(0, 0, 4, 300));
    x.clock(301);
    none("a taken one is so behind its minute", x.offer(0, 0, 4, 400));
    due("the other leg's is lapsed", x.offer(0, 2, 1, 400), 3);
  }

  private static void takenIsFlownEmpty() {
    sentence("A LEG that is taken may still be flown empty by its PLAN: only who pays changes.");
    EmptyLegs x = withLeg();
    due("the bill", x.bill(0), 1200);
    x.offer(0, 0, 200, 100);
    x.take(0, 5);
    due("less for who hired the flight", x.bill(0), 1100);
    due("the leg is a leg", x.count(4), 60);
    none("without a flight", x.move(0, 0, 0));
    due("planned again", x.plan(), 1);
    due("with the same leg", x.count(4), 60);
    x.plane(0, 9, 30, 10);
    x.plan();
    due("a plan without the leg is better", x.on(0), 1);
  }

  private static void billMinutes() {
    sentence("THE BILL of a FLIGHT on a PLANE by the PLAN at hand: RATE times its MINUTES and those of the EMPTY LEG ahead of it");
    EmptyLegs x = desk(0, 1, 600, 0, 2, 600, 1, 2, 10);
    tell(x, 0, "d9999");
    x.plane(1, 1, 180, 1000);
    x.flight(0, 2, 2000, 1);
    x.flight(2, 1, 3500, 1);
    due("both", x.plan(), 2);
    due("the most that a flight is billed", x.bill(0), 1200000);
    due("one without a leg", x.bill(1), 10000);
    EmptyLegs y = desk(0, 1, 10);
    y.plane(0, 1, 0, 1);
    y.flight(0, 1, 0, 1);
    y.plan();
    due("the least", y.bill(0), 10);
  }

  private static long billedAt(int price) {
    EmptyLegs x = withLeg();
    x.offer(0, 0, price, 100);
    x.take(0, 5);
    return x.bill(0);
  }

  private static void billLess() {
    sentence("less half (rounded down) of the price of the OFFER of that LEG if it is TAKEN (never below 0).");
    due("0", billedAt(0), 1200);
    due("1", billedAt(1), 1200);
    due("2", billedAt(2), 1199);
    due("3", billedAt(3), 1199);
    due("2398", billedAt(2398), 1);
    due("2399", billedAt(2399), 1);
    due("2400", billedAt(2400), 0);
    due("2402", billedAt(2402), 0);
    due("1000000", billedAt(1000000), 0);
    EmptyLegs x = withLeg();
    x.flight(0, 1, 900, 9);
    x.plan();
    x.offer(0, 0, 100, 50);
    due("open", x.bill(0), 1200);
    x.clock(51);
    due("lapsed", x.bill(0), 1200);
    x.offer(0, 0, 300, 60);
    x.take(1, 1);
    due("taken", x.bill(0), 1050);
    due("not of the other's leg", x.bill(1), 1200);
    EmptyLegs y = withLeg();
    y.flight(1, 2, 200, 9);
    y.plan();
    y.offer(0, 1, 300, 60);
    y.take(0, 1);
    due("taken", y.bill(0), 1050);
    y.cancel(1);
    due("broken", y.bill(0), 1200);
  }

  // ---- the desk's memory, refused calls

  private static void ownMemory() {
    sentence("All memory is the desk's own.");
    EmptyLegs x = withLeg();
    EmptyLegs y = new EmptyLegs();
    for (int what = 0; what <= 8; what++) due("another desk's count(" + what + ")", y.count(what), 0);
    none("another desk's way", y.flight(0, 1, 0, 1));
    feedText(y, "d60");
    due("x has no tape", x.count(8), 0);
    y.law(0, 3);
    due("x has its law", x.rule(0, 0), 840);
    y.storm(0, 0, 10080);
    y.clock(900);
    due("x has no storm", x.fits(), 1);
    due("x has its clock", x.offer(0, 0, 1, 0), 0);
    none("y has no offer", y.told(0, 0));
  }

  /** All that can be asked of a small desk. */
  private static String seen(EmptyLegs x) {
    StringBuilder s = new StringBuilder();
    for (int what = 0; what <= 8; what++) s.append(x.count(what)).append(' ');
    for (int day = 0; day < 7; day++) s.append(x.rule(day, 0)).append(' ').append(x.rule(day, 1)).append(' ');
    for (int f = 0; f < 5; f++) {
      s.append(x.on(f)).append(' ').append(x.bill(f)).append(' ');
      for (int what = 0; what < 6; what++) s.append(x.look(f, what)).append(' ');
    }
    for (int p = 0; p < 2; p++) for (int i = 0; i < 5; i++) for (int what = 0; what < 5; what++) s.append(x.move(p, i, what)).append(' ');
    for (int o = 0; o < 4; o++) for (int what = 0; what < 6; what++) s.append(x.told(o, what)).append(' ');
    return s.append(x.fits()).toString();
  }

  /** Two planes, four flights (one cancelled), a storm, an open, a taken and a lapsed offer, and some tape. */
  private static EmptyLegs inUse() {
    EmptyLegs x = desk(0, 1, 60, 0, 2, 60, 1, 2, 60);
    x.plane(1, 9, 30, 10);
    x.plane(2, 5, 0, 7);
    x.flight(0, 2, 500, 9);
    x.flight(0, 1, 900, 9);
    x.flight(2, 1, 100, 9);
    x.flight(2, 0, 1200, 5);
    x.cancel(2);
    x.storm(1, 100, 200);
    x.plan();
    x.offer(0, 2, 10, 5);
    x.clock(6);
    x.offer(0, 0, 20, 50);
    x.offer(0, 2, 30, 50);
    x.take(2, 4);
    feedText(x, "d700;r70");
    return x;
  }

  private static void refuseAll(EmptyLegs x) {
    none("law", x.law(7, 8));
    none("law", x.law(-1, 8));
    none("law", x.law(0, 21));
    none("law", x.law(0, -1));
    due("way", x.way(0, 0, 10), false);
    due("way", x.way(0, 1, 9), false);
    due("way", x.way(0, 1, 601), false);
    due("way", x.way(0, 2, 0), false);
    due("way", x.way(8, 0, 20), false);
    none("plane", x.plane(8, 1, 0, 1));
    none("plane", x.plane(0, 31, 0, 1));
    none("plane", x.plane(0, 1, 181, 1));
    none("plane", x.plane(0, 1, 0, 1001));
    none("flight", x.flight(0, 3, 0, 1));
    none("flight", x.flight(0, 1, 10080, 1));
    none("flight", x.flight(0, 1, 0, 31));
    due("cancel", x.cancel(2), false);
    due("cancel", x.cancel(4), false);
    none("storm", x.storm(8, 0, 1));
    none("storm", x.storm(0, 500, 500));
    none("storm", x.storm(0, 0, 10081));
    due("clock", x.clock(5), false);
    due("clock", x.clock(10080), false);
    none("offer", x.offer(0, 0, 1, 60));
    none("offer", x.offer(0, 1, 1, 60));
    none("offer", x.offer(0, 2, 1, 60));
    none("offer", x.offer(1, 0, 1, 60));
    due("take", x.take(0, 1), false);
    due("take", x.take(1, 100), false);
    due("take", x.take(2, 1), false);
    due("take", x.take(3, 1), false);
  }

  private static void refusedChangesNothing() {
    sentence("A call that is refused (NONE, false) changes nothing but the tape, where it is told.");
    EmptyLegs x = inUse();
    EmptyLegs twin = inUse();
    refuseAll(x);
    String at = seen(twin);
    due("all that is seen: " + at, at.equals(seen(x)), true);
    feedText(x, "full now");
    feedText(twin, "full now");
    none("a third feed", feedText(x, "x"));
    due("the tape", x.law(3, 8), twin.law(3, 8));
    due("the next plane", x.plane(0, 9, 0, 1), 2);
    due("the next flight", x.flight(0, 1, 600, 1), 4);
    due("the next storm", x.storm(0, 500, 501), 1);
    due("the plan", x.replan(), 1);
    twin.plane(0, 9, 0, 1);
    twin.flight(0, 1, 600, 1);
    twin.storm(0, 500, 501);
    twin.replan();
    at = seen(twin);
    due("all that is seen then: " + at, at.equals(seen(x)), true);
  }

  // ---- the promises

  private static void newDesk() {
    sentence("`NONE = -1`: There is none.");
    due("NONE", EmptyLegs.NONE, -1);
    sentence("`EmptyLegs()`: No WAYS, PLANES, FLIGHTS, STORMS.");
    EmptyLegs x = new EmptyLegs();
    for (int a = 0; a < 8; a++) for (int b = 0; b < 8; b++) none("a way", x.flight(a, b, 0, 1));
    due("planes", x.count(0), 0);
    due("flights", x.count(1), 0);
    due("storms", x.count(5), 0);
    none("flight 0", x.look(0, 0));
    due("cancel(0)", x.cancel(0), false);
    due("plan", x.plan(), 0);
    due("replan", x.replan(), 0);
    due("fits", x.fits(), 1);
    none("offer", x.offer(0, 0, 0, 0));
    due("take", x.take(0, 0), false);
  }

  private static void feedOrder() {
    sentence("Twenty bytes come behind the tape, the highest of each int first: how many it has");
    EmptyLegs x = new EmptyLegs();
    due("twenty", x.feed(0x72313b72, 0x323b7233, 0x3b72343b, 0x72353b72, 0x363b7237), 20);
    due("r1;r2;r3;r4;r5;r6;r7", x.law(0, 20), 0);
    due("the last of them", x.rule(0, 1), 7);
    due("forty by two", feedText(x, "d100;r10;d200;r20;d3"), 20);
    due("behind the tape", feedText(x, "00;r30;d400;r40;d999"), 40);
    due("all forty", x.law(0, 40), 0);
    due("DUTY", x.rule(0, 0), 999);
    due("REST", x.rule(0, 1), 40);
    due("bytes above 127", x.feed(0x7231ffff, -1, LEAST, MOST, -1), 20);
    due("are none of a text", x.law(0, 3), 402);
    due("each int has four", x.feed(0x72, 0x31, 0, 0, 0), 20);
    due("the highest first", x.law(0, 4), 100);
  }

  private static void feedFull() {
    sentence("NONE if that would be more than 40.");
    EmptyLegs x = new EmptyLegs();
    due("20", feedText(x, "d100"), 20);
    due("40", feedText(x, "d200"), 40);
    none("60", feedText(x, "d300"));
    none("60 again", x.feed(0, 0, 0, 0, 0));
    due("40 yet", x.count(8), 40);
    due("as they were", x.law(0, 4), 0);
    due("the first", x.rule(0, 0), 100);
    due("there is room again", feedText(x, "d400"), 20);
  }

  private static void lawReads() {
    sentence("The first n bytes of the tape (empty then) are a TEXT of THE LAW from a day on: 0");
    EmptyLegs x = new EmptyLegs();
    feedText(x, "d1234567");
    due("five of twenty", x.law(0, 5), 0);
    due("no sixth is read", x.rule(0, 0), 1234);
    due("the tape is empty", x.count(8), 0);
    none("so there is no byte more", x.law(0, 1));
    feedText(x, "d77;r7;d88;r8;d0099;");
    due("all but the last", x.law(2, 19), 0);
    due("from day 2 on", x.rule(2, 0), 99);
    due("not on day 1", x.rule(1, 0), 1234);
    due("up to day 6", x.rule(6, 0), 99);
  }

  private static void lawFault() {
    sentence("a FAULT: 100 times its number and its place (THE LAW stays)");
    EmptyLegs x = new EmptyLegs();
    tell(x, 0, "d100;r10");
    feedText(x, "d200;r20;d300;r30;d4");
    feedText(x, "00;r40;d500;r50;r60x");
    due("place 39", x.law(0, 40), 439);
    due("the tape is empty then", x.count(8), 0);
    due("DUTY stays", x.rule(0, 0), 100);
    due("REST stays", x.rule(0, 1), 10);
    feedText(x, "d200");
    due("no byte of some", x.law(0, 0), 100);
    due("the tape is empty then", x.count(8), 0);
    due("DUTY stays", x.rule(0, 0), 100);
  }

  private static void lawNone() {
    sentence("NONE: no such day, or it has not so many (the tape stays).");
    EmptyLegs x = new EmptyLegs();
    none("one of none", x.law(0, 1));
    feedText(x, "d100");
    for (int bad : new int[] {LEAST, -1, 7, MOST}) none("day " + bad, x.law(bad, 4));
    for (int bad : new int[] {LEAST, -1, 21, 40, MOST}) none("n " + bad, x.law(0, bad));
    due("the tape stays", x.count(8), 20);
    due("twenty of twenty", x.law(0, 20), 404);
    feedText(x, "d100");
    feedText(x, "d200");
    none("41 of 40", x.law(0, 41));
    due("the tape stays", x.count(8), 40);
    due("40 of 40", x.law(0, 40), 404);
    feedText(x, "d100");
    none("a bad day and too many", x.law(7, 21));
    due("as it was", x.law(6, 4), 0);
    due("DUTY", x.rule(6, 0), 100);
  }

  private static void ruleNone() {
    sentence("By THE LAW in force on a day, what 0 DUTY, 1 REST. NONE for others.");
    EmptyLegs x = new EmptyLegs();
    for (int bad : new int[] {LEAST, -1, 7, MOST}) {
      none("DUTY of day " + bad, x.rule(bad, 0));
      none("REST of day " + bad, x.rule(bad, 1));
    }
    for (int bad : new int[] {LEAST, -1, 2, MOST}) {
      none("what " + bad + " of day 0", x.rule(0, bad));
      none("what " + bad + " of day 6", x.rule(6, bad));
    }
    due("DUTY", x.rule(6, 0), 840);
    due("REST", x.rule(6, 1), 600);
  }

  private static void wayNone() {
    sentence("A WAY between two FIELDS takes so many MINUTES (0: there is none): true");
    EmptyLegs x = new EmptyLegs();
    due("none where none is", x.way(0, 1, 0), true);
    due("one", x.way(0, 1, 10), true);
    due("none again", x.way(1, 0, 0), true);
    none("no flight there", x.flight(0, 1, 0, 1));
    none("no flight back", x.flight(1, 0, 0, 1));
    for (int a = 0; a < 8; a++) for (int b = 0; b < 8; b++) due("way " + a + " " + b, x.way(a, b, 10 + a * 8 + b), a != b);
    for (int f = 0; f < 8; f++) x.flight(f, 7 - f, 0, 1);
    for (int f = 0; f < 8; f++) due("the later told one, both ways", x.look(f, 5), 10 + Math.max(f, 7 - f) * 8 + Math.min(f, 7 - f));
  }

  private static void wayFalse() {
    sentence("false: no such ones, or a FLIGHT goes on it that would have none.");
    EmptyLegs x = desk(0, 1, 10, 6, 7, 10);
    x.flight(7, 6, 0, 1);
    due("a flight goes on it", x.way(6, 7, 0), false);
    due("it may take longer", x.way(6, 7, 600), true);
    due("no flight goes on that one", x.way(0, 1, 0), true);
    for (int bad : new int[] {LEAST, -1, 8, MOST}) due("field " + bad, x.way(bad, bad, 10), false);
  }

  private static void planeNone() {
    sentence("A PLANE: its number; NONE: no such HOME, SEATS, TURN, RATE, 4 are there.");
    EmptyLegs x = new EmptyLegs();
    int[][] bad = {{-1, 1, 0, 1}, {8, 1, 0, 1}, {0, 0, 0, 1}, {0, 31, 0, 1}, {0, 1, -1, 1}, {0, 1, 181, 1}, {0, 1, 0, 0}, {0, 1, 0, 1001}};
    for (int p = 0; p < 4; p++) {
      for (int[] b : bad) none("wrong", x.plane(b[0], b[1], b[2], b[3]));
      due("its number", x.plane(7, 30, 180, 1000), p);
    }
    none("4 are there", x.plane(7, 30, 180, 1000));
    due("4", x.count(0), 4);
  }

  private static void flightNone() {
    sentence("A FLIGHT: its number; NONE: no WAY between such two, no such START, SEATS (1 to 30), 20 are there, or 8 that are not CANCELLED.");
    EmptyLegs x = desk(0, 1, 10);
    int[][] bad = {{0, 0, 0, 1}, {0, 2, 0, 1}, {-1, 0, 0, 1}, {0, 8, 0, 1}, {0, 1, -1, 1}, {0, 1, 10080, 1}, {0, 1, 0, 0}, {0, 1, 0, -1},
        {0, 1, 0, 31}, {0, 1, 0, LEAST}, {0, 1, 0, MOST}, {LEAST, MOST, 0, 1}};
    for (int f = 0; f < 20; f++) {
      for (int[] b : bad) none("wrong", x.flight(b[0], b[1], b[2], b[3]));
      due("its number", x.flight(f % 2, 1 - f % 2, 10079 * (f % 2), 1 + 29 * (f % 2)), f);
      if (f >= 7) {
        none("8 that are not cancelled", x.flight(0, 1, 0, 1));
        x.cancel(f);
      }
    }
    due("7 that are not", x.count(2), 7);
    none("20 are there", x.flight(0, 1, 0, 1));
    due("30 seats", x.look(19, 3), 30);
    due("1 seat", x.look(18, 3), 1);
  }

  private static void cancelFalse() {
    sentence("A FLIGHT is CANCELLED: true; false: none such, or it is.");
    EmptyLegs x = desk(0, 1, 10);
    due("none is there", x.cancel(0), false);
    x.flight(0, 1, 0, 1);
    x.flight(0, 1, 0, 1);
    for (int bad : new int[] {LEAST, -1, 2, 20, MOST}) due("flight " + bad, x.cancel(bad), false);
    due("two are there", x.count(2), 2);
    due("the first", x.cancel(0), true);
    due("it is", x.cancel(0), false);
    due("the last", x.cancel(1), true);
    due("it is", x.cancel(1), false);
    due("none is not", x.count(2), 0);
    due("two in all", x.count(1), 2);
  }

  private static void stormNone() {
    sentence("A STORM at a FIELD from a MINUTE up to another one (not counted; to 10080): its number; NONE: no such ones, 20 are there.");
    EmptyLegs x = new EmptyLegs();
    int[][] bad = {{-1, 0, 1}, {8, 0, 1}, {0, -1, 1}, {0, 10080, 10080}, {0, 10080, 10081}, {0, 0, 0}, {0, 5, 5}, {0, 5, 4}, {0, 10079, 0},
        {0, 10079, 10079}, {0, 10079, 10081}, {0, 0, 10081}, {0, 0, -1}, {0, 0, LEAST}, {0, 0, MOST}, {0, MOST, LEAST}, {0, MOST, MOST}};
    for (int s = 0; s < 20; s++) {
      for (int[] b : bad) none("wrong", x.storm(b[0], b[1], b[2]));
      due("its number", x.storm(s % 8, s % 2 * 10079, s % 2 == 0 ? 1 : 10080), s);
    }
    none("20 are there", x.storm(0, 0, 10080));
    due("20", x.count(5), 20);
  }

  private static void clockFalse() {
    sentence("THE CLOCK goes to a MINUTE: true; false: it is ahead of where it stands, or none.");
    EmptyLegs x = new EmptyLegs();
    due("1", x.clock(1), true);
    due("0", x.clock(0), false);
    due("1, where it stands", x.clock(1), true);
    due("10078", x.clock(10078), true);
    for (int bad : new int[] {LEAST, -1, 0, 10077, 10080, MOST}) due("clock(" + bad + ")", x.clock(bad), false);
    due("it stands", x.count(7), 10078);
    due("the last", x.clock(10079), true);
    due("where it stands", x.clock(10079), true);
    due("none behind it", x.clock(10080), false);
    due("it stands", x.count(7), 10079);
  }

  private static void planAnswer() {
    sentence("THE BEST becomes the PLAN at hand: how many FLIGHTS are flown.");
    EmptyLegs x = desk(0, 1, 10);
    due("nothing at all", x.plan(), 0);
    x.plane(0, 1, 0, 1);
    due("a plane, no flight", x.plan(), 0);
    for (int f = 0; f < 8; f++) {
      x.flight(f % 2, 1 - f % 2, 100 + 10 * f, 1);
      due("flown", x.plan(), f + 1);
      due("at hand", x.count(3), f + 1);
    }
    for (int f = 7; f >= 0; f--) {
      x.cancel(f);
      due("flown", x.plan(), f);
    }
  }

  private static void replanAnswer() {
    sentence("THE LEAST CHANGED becomes the PLAN at hand: how many FLIGHTS are moved.");
    EmptyLegs x = desk(0, 1, 10);
    due("nothing at all", x.replan(), 0);
    x.plane(0, 1, 0, 1);
    for (int f = 0; f < 8; f++) x.flight(f % 2, 1 - f % 2, 100 + 10 * f, 1);
    due("new ones are not moved", x.replan(), 0);
    due("all are at hand", x.count(3), 8);
    x.storm(0, 100, 101);
    due("none but the first can't be flown, but there is no time for a leg", x.replan(), 2);
    due("at hand", x.count(3), 6);
    due("again", x.replan(), 0);
  }

  private static void fitsAnswer() {
    sentence("Whether the PLAN at hand FITS, as things are: 1, 0.");
    EmptyLegs x = withLeg();
    due("as planned", x.fits(), 1);
    x.way(0, 1, 470);
    due("a leg from 0", x.fits(), 1);
    x.way(0, 1, 471);
    due("a leg from -1", x.fits(), 0);
    x.way(0, 1, 60);
    due("as it was", x.fits(), 1);
    x.storm(2, 560, 561);
    due("a storm", x.fits(), 0);
    x.cancel(0);
    due("an empty plan", x.fits(), 1);
  }

  private static void onNone() {
    sentence("The PLANE of FLIGHT f by the PLAN at hand; NONE: UNFLOWN, CANCELLED, none such.");
    EmptyLegs x = withLeg();
    due("on", x.on(0), 0);
    x.flight(0, 2, 500, 9);
    none("not planned", x.on(1));
    x.plan();
    none("unflown", x.on(1));
    x.cancel(0);
    none("cancelled", x.on(0));
    for (int bad : new int[] {LEAST, -1, 2, 20, MOST}) none("flight " + bad, x.on(bad));
  }

  private static void moveNone() {
    sentence("MOVE i of PLANE p by the PLAN at hand, what 0 the FLIGHT (NONE: an EMPTY LEG), 1 from, 2 to, 3 when it begins, 4 ends. NONE for others");
    EmptyLegs x = withLeg();
    x.plane(2, 9, 30, 10);
    int[][] due = {{-1, 1, 0, 410, 470}, {0, 0, 2, 500, 560}};
    for (int i = 0; i < 2; i++) for (int what = 0; what < 5; what++) due("move " + i + " what " + what, x.move(0, i, what), due[i][what]);
    for (int what = 0; what < 5; what++) {
      for (int bad : new int[] {LEAST, -2, -1, 2, 3, MOST - 1, MOST}) none("move " + bad, x.move(0, bad, what));
      for (int bad : new int[] {LEAST, -1, 2, 4, MOST}) none("plane " + bad, x.move(bad, 0, what));
      none("a plane without a flight", x.move(1, 0, what));
    }
    for (int bad : new int[] {LEAST, -1, 5, MOST}) {
      none("what " + bad + " of a leg", x.move(0, 0, bad));
      none("what " + bad + " of a flight", x.move(0, 1, bad));
    }
  }

  private static void moveWithoutWay() {
    sentence("(of an EMPTY LEG without a WAY now 3, 4 are NONE)");
    EmptyLegs x = withLeg();
    x.way(0, 1, 0);
    int[] leg = {-1, 1, 0, -1, -1};
    int[] flight = {0, 0, 2, 500, 560};
    for (int what = 0; what < 5; what++) {
      due("the leg, what " + what, x.move(0, 0, what), leg[what]);
      due("its flight, what " + what, x.move(0, 1, what), flight[what]);
    }
    x.way(0, 1, 10);
    due("a way again", x.move(0, 0, 3), 460);
    due("a way again", x.move(0, 0, 4), 470);
  }

  private static void offerNone() {
    sentence("AN OFFER of the EMPTY LEG that is MOVE i of PLANE p: its number; NONE: there is none such, price, MINUTE (not ahead of THE CLOCK), one of it is OPEN or TAKEN");
    EmptyLegs x = withLeg();
    x.plane(1, 9, 30, 10);
    x.clock(100);
    for (int bad : new int[] {LEAST, -2, -1, 1, 2, MOST - 1, MOST}) none("move " + bad, x.offer(0, bad, 1, 200));
    for (int bad : new int[] {LEAST, -1, 1, 2, 4, MOST}) none("plane " + bad, x.offer(bad, 0, 1, 200));
    for (int bad : new int[] {LEAST, -1, 1000001, MOST}) none("price " + bad, x.offer(0, 0, bad, 200));
    for (int bad : new int[] {LEAST, -1, 0, 99, 10080, MOST}) none("till " + bad, x.offer(0, 0, 1, bad));
    due("none is there", x.count(6), 0);
    due("where the clock stands", x.offer(0, 0, 1, 100), 0);
    none("one is open", x.offer(0, 0, 1, 100));
    x.take(0, 1);
    none("one is taken", x.offer(0, 0, 1, 100));
    due("one is there", x.count(6), 1);
    x.cancel(0);
    none("the leg is gone", x.offer(0, 0, 1, 200));
  }

  private static void offersInAll() {
    sentence("40 are there.");
    EmptyLegs x = withLeg();
    for (int o = 0; o < 40; o++) {
      due("its number", x.offer(0, 0, o, o), o);
      due("clock", x.clock(o + 1), true);
    }
    none("40 are there, though all are lapsed", x.offer(0, 0, 1, 9000));
    due("40", x.count(6), 40);
    due("the last", x.told(39, 1), 39);
    due("lapsed", x.told(39, 0), 2);
    none("behind the last", x.told(40, 0));
    EmptyLegs y = withLeg();
    for (int o = 0; o < 39; o++) {
      y.offer(0, 0, o, o);
      y.clock(o + 1);
    }
    due("the last", y.offer(0, 0, 7, 9000), 39);
    due("it may be taken", y.take(39, 99), true);
    due("its client", y.told(39, 3), 99);
  }

  private static void takeFalse() {
    sentence("A client takes an OFFER: true; false: none such, it is not OPEN, no such client.");
    EmptyLegs x = withLeg();
    due("none is there", x.take(0, 0), false);
    x.offer(0, 0, 1, 100);
    for (int bad : new int[] {LEAST, -1, 1, 40, MOST}) due("offer " + bad, x.take(bad, 0), false);
    for (int bad : new int[] {LEAST, -1, 100, MOST}) due("client " + bad, x.take(0, bad), false);
    due("taken", x.take(0, 0), true);
    due("it is taken", x.take(0, 0), false);
    x.cancel(0);
    due("it is broken", x.take(0, 0), false);
    EmptyLegs y = withLeg();
    y.offer(0, 0, 1, 0);
    y.clock(1);
    due("it is lapsed", y.take(0, 0), false);
    due("lapsed yet", y.told(0, 0), 2);
  }

  private static void toldNone() {
    sentence("Of OFFER o, what 0: 0 OPEN, 1 TAKEN, 2 LAPSED, 3 BROKEN; 1 price, 2 till, 3 client (NONE), 4 PLANE, 5 the FLIGHT that the LEG is ahead of. NONE for others.");
    EmptyLegs x = desk(0, 1, 60, 0, 2, 60);
    x.plane(0, 1, 30, 10);
    x.plane(1, 9, 30, 10);
    x.flight(1, 0, 100, 9);
    x.flight(1, 0, 500, 9);
    x.plan();
    due("offer", x.offer(1, 1, 6, 7), 0);
    int[] due = {0, 6, 7, -1, 1, 1};
    for (int what = 0; what < 6; what++) due("what " + what, x.told(0, what), due[what]);
    for (int bad : new int[] {LEAST, -1, 6, MOST}) none("what " + bad, x.told(0, bad));
    for (int bad : new int[] {LEAST, -1, 1, 40, MOST}) for (int what = 0; what < 6; what++) none("offer " + bad, x.told(bad, what));
    x.clock(8);
    due("lapsed", x.told(0, 0), 2);
    none("a lapsed one has no client", x.told(0, 3));
    x.offer(1, 1, 0, 8);
    x.take(1, 0);
    due("taken", x.told(1, 0), 1);
    due("by client 0", x.told(1, 3), 0);
    due("price 0", x.told(1, 1), 0);
    x.cancel(1);
    due("broken", x.told(1, 0), 3);
    due("its flight, cancelled", x.told(1, 5), 1);
  }

  private static void billNone() {
    sentence("THE BILL of FLIGHT f; NONE: it is on no PLANE by the PLAN at hand (or its LEG has no WAY now).");
    EmptyLegs x = withLeg();
    for (int bad : new int[] {LEAST, -1, 1, 20, MOST}) none("flight " + bad, x.bill(bad));
    x.flight(2, 1, 700, 9);
    none("not planned", x.bill(1));
    x.plan();
    due("planned", x.bill(1), 600);
    x.way(0, 1, 0);
    none("its leg has no way", x.bill(0));
    due("the other has no leg", x.bill(1), 600);
    x.way(0, 1, 10);
    due("it has one", x.bill(0), 700);
    x.storm(2, 560, 561);
    due("a plan that fits no more is billed", x.bill(0), 700);
    x.replan();
    none("unflown", x.bill(0));
    x.cancel(1);
    none("cancelled", x.bill(1));
  }

  private static void lookNone() {
    sentence("Of FLIGHT f, what 0 from, 1 to, 2 START, 3 SEATS, 4 whether it is CANCELLED, 5 MINUTES. NONE for others.");
    EmptyLegs x = desk(6, 7, 600);
    none("none is there", x.look(0, 0));
    x.flight(7, 6, 10079, 30);
    int[] due = {7, 6, 10079, 30, 0, 600};
    for (int what = 0; what < 6; what++) due("what " + what, x.look(0, what), due[what]);
    for (int bad : new int[] {LEAST, -1, 6, MOST}) none("what " + bad, x.look(0, bad));
    for (int bad : new int[] {LEAST, -1, 1, 20, MOST}) for (int what = 0; what < 6; what++) none("flight " + bad, x.look(bad, what));
    x.cancel(0);
    x.way(6, 7, 0);
    int[] gone = {7, 6, 10079, 30, 1, 0};
    for (int what = 0; what < 6; what++) due("cancelled, what " + what, x.look(0, what), gone[what]);
  }

  private static void countWithoutWay() {
    sentence("0 PLANES, 1 FLIGHTS, 2 those not CANCELLED, 3 flown by the PLAN at hand, 4 its empty MINUTES (LEGS without a WAY count 0)");
    EmptyLegs x = withLeg();
    x.flight(1, 2, 900, 9);
    x.plan();
    due("two legs", x.count(4), 120);
    x.way(1, 2, 600);
    due("one is longer", x.count(4), 660);
    x.way(0, 1, 0);
    due("one has no way", x.count(4), 600);
    due("flown as before", x.count(3), 2);
    x.cancel(1);
    due("the other is gone", x.count(4), 0);
  }

  private static void countNone() {
    sentence("5 STORMS, 6 OFFERS, 7 THE CLOCK, 8 bytes of the tape. NONE for others.");
    for (int bad : new int[] {LEAST, -1, 9, MOST}) {
      none("what " + bad, new EmptyLegs().count(bad));
      none("what " + bad + " of a desk in use", inUse().count(bad));
    }
    EmptyLegs x = inUse();
    int[] due = {2, 4, 3, 3, 120, 1, 3, 6, 20};
    for (int what = 0; what < 9; what++) due("what " + what, x.count(what), due[what]);
  }

  private static void terms() {
    calls512();
    minutesOfTheWeek();
    days();
    clockAtFirst();
    fields();
    wayMinutes();
    planesInAll();
    homeAtZero();
    planeSeats();
    planeTurn();
    planeRate();
    flightsInAll();
    flightTakesItsWay();
    wayInUse();
    liveFlights();
    chainInOrder();
    legWhereItIsNot();
    legIsLate();
    seatsEnough();
    movesWithinTheWeek();
    waysForLegs();
    turnBetweenMoves();
    storms();
    stormsInAll();
    rest();
    duty();
    lawOfTheFirstMove();
    lawAtFirst();
    clauses();
    dutyNumbers();
    restNumbers();
    untold();
    twoOfOneDay();
    firstFault();
    noLetter();
    noDigit();
    wrongNumber();
    behindAClause();
    endBehindSemicolon();
  }

  private static void plansAndOffers() {
    planFitsByAllChains();
    mostFlown();
    fewestEmpty();
    leastRow();
    leastChangedMostFlown();
    leastChangedFewestMoved();
    noneAtFirst();
    toldLater();
    cancelledIsOut();
    offerPrice();
    takenByTheFirst();
    lapsed();
    broken();
    sameLeg();
    onceAndForAll();
    oneOffer();
    takenIsFlownEmpty();
    billMinutes();
    billLess();
    ownMemory();
    refusedChangesNothing();
  }

  private static void promises() {
    newDesk();
    feedOrder();
    feedFull();
    lawReads();
    lawFault();
    lawNone();
    ruleNone();
    wayNone();
    wayFalse();
    planeNone();
    flightNone();
    cancelFalse();
    stormNone();
    clockFalse();
    planAnswer();
    replanAnswer();
    fitsAnswer();
    onNone();
    moveNone();
    moveWithoutWay();
    offerNone();
    offersInAll();
    takeFalse();
    toldNone();
    billNone();
    lookNone();
    countWithoutWay();
    countNone();
  }

  public static void main(String[] args) throws Exception {
    String path = System.getProperty("doc");
    if (path != null && Files.isReadable(Path.of(path))) doc = plain(Files.readString(Path.of(path)));
    else System.out.println("the document is not at hand: the words of the tests are not looked up");
    terms();
    plansAndOffers();
    promises();
    System.out.println(sentences + " sentences, " + asked + " answers, " + wrong + " of them not as due");
    if (wrong != 0) System.exit(1);
  }
}
