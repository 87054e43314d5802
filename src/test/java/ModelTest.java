import java.util.ArrayList;
import java.util.Arrays;
import java.util.Comparator;
import java.util.List;
import java.util.Random;
import java.util.TreeMap;
import java.util.regex.Matcher;
import java.util.regex.Pattern;

/** Long runs of chosen calls on the class and on a plain second desk that tries every plan; all that can be asked is asked behind each. */
public final class ModelTest {
  record Plane(int home, int seats, int turn, int rate) {}

  static final class Flight {
    int number, from, to, start, seats;
    boolean cancelled;
    int plane = -1;
  }

  record Storm(int field, int from, int to) {}

  /** ahead: the flight itself, or the one that an empty leg is ahead of. */
  record Move(Flight ahead, boolean empty, int from, int to, int minutes, int begin, int end) {}

  static final class Offer {
    int state, price, till, client = -1, plane, flight, from, to;
  }

  /** The second desk, written from the document with no care for speed. */
  static final class Model {
    final int[][] ways = new int[8][8];
    final List<Plane> planes = new ArrayList<>();
    final List<Flight> flights = new ArrayList<>();
    final List<Storm> storms = new ArrayList<>();
    final List<Offer> offers = new ArrayList<>();
    final TreeMap<Integer, String> law = new TreeMap<>();
    String tape = "";
    int clock = 0;

    static boolean in(int v, int least, int most) {
      return v >= least && v <= most;
    }

    int feed(int... ints) {
      if (tape.length() + 20 > 40) return -1;
      for (int v : ints) for (int k = 3; k >= 0; k--) tape += (char) ((v >> (8 * k)) & 255);
      return tape.length();
    }

    static int fault(String text) {
      Pattern clause = Pattern.compile("([dr])([0-9]+)");
      int at = 0;
      while (true) {
        if (at == text.length() || "dr".indexOf(text.charAt(at)) < 0) return 100 + at;
        Matcher m = clause.matcher(text).region(at, text.length());
        if (!m.lookingAt()) return 201 + at;
        String digits = m.group(2);
        if (digits.length() > 4 || m.group(1).equals("d") && Integer.parseInt(digits) < 60) return 301 + at;
        at = m.end();
        if (at == text.length()) return 0;
        if (text.charAt(at) != ';') return 400 + at;
        at++;
      }
    }

    int law(int day, int n) {
      if (!in(day, 0, 6) || n < 0 || n > tape.length()) return -1;
      String text = tape.substring(0, n);
      tape = "";
      int fault = fault(text);
      if (fault == 0) law.put(day, text);
      return fault;
    }

    int rule(int day, int what) {
      if (!in(day, 0, 6) || !in(what, 0, 1)) return -1;
      int value = what == 0 ? 840 : 600;
      for (String text : law.headMap(day, true).values()) {
        for (String c : text.split(";")) if (c.charAt(0) == (what == 0 ? 'd' : 'r')) value = Integer.parseInt(c.substring(1));
      }
      return value;
    }

    boolean way(int a, int b, int minutes) {
      if (!in(a, 0, 7) || !in(b, 0, 7) || a == b || minutes != 0 && !in(minutes, 10, 600)) return false;
      for (Flight f : flights) {
        if (minutes == 0 && !f.cancelled && Math.min(f.from, f.to) == Math.min(a, b) && Math.max(f.from, f.to) == Math.max(a, b)) return false;
      }
      ways[a][b] = minutes;
      ways[b][a] = minutes;
      return true;
    }

    int plane(int home, int seats, int turn, int rate) {
      if (!in(home, 0, 7) || !in(seats, 1, 30) || !in(turn, 0, 180) || !in(rate, 1, 1000) || planes.size() == 4) return -1;
      planes.add(new Plane(home, seats, turn, rate));
      return planes.size() - 1;
    }

    List<Flight> live() {
      List<Flight> live = new ArrayList<>(flights);
      live.removeIf(f -> f.cancelled);
      live.sort(Comparator.<Flight>comparingInt(f -> f.start).thenComparingInt(f -> f.number));
      return live;
    }

    int flight(int from, int to, int start, int seats) {
      if (!in(from, 0, 7) || !in(to, 0, 7) || ways[from][to] == 0 || !in(start, 0, 10079) || !in(seats, 1, 30)) return -1;
      if (flights.size() == 20 || live().size() == 8) return -1;
      Flight f = new Flight();
      f.number = flights.size();
      f.from = from;
      f.to = to;
      f.start = start;
      f.seats = seats;
      flights.add(f);
      return f.number;
    }

    boolean cancel(int f) {
      if (!in(f, 0, flights.size() - 1) || flights.get(f).cancelled) return false;
      flights.get(f).cancelled = true;
      flights.get(f).plane = -1;
      mendOffers();
      return true;
    }

    int storm(int field, int from, int to) {
      if (!in(field, 0, 7) || !in(from, 0, 10079) || !in(to, 0, 10080) || to <= from || storms.size() == 20) return -1;
      storms.add(new Storm(field, from, to));
      return storms.size() - 1;
    }

    boolean clock(int minute) {
      if (!in(minute, 0, 10079) || minute < clock) return false;
      clock = minute;
      mendOffers();
      return true;
    }

    List<Move> moves(int p, List<Flight> chain) {
      List<Move> moves = new ArrayList<>();
      int place = planes.get(p).home;
      for (Flight f : chain) {
        if (f.from != place) {
          int w = ways[place][f.from];
          int end = f.start - planes.get(p).turn;
          moves.add(new Move(f, true, place, f.from, w, end - w, end));
        }
        int w = ways[f.from][f.to];
        moves.add(new Move(f, false, f.from, f.to, w, f.start, f.start + w));
        place = f.to;
      }
      return moves;
    }

    boolean chainFits(int p, List<Flight> chain) {
      Plane plane = planes.get(p);
      for (Flight f : chain) if (f.seats > plane.seats) return false;
      List<Move> moves = moves(p, chain);
      for (Move m : moves) {
        if (m.minutes == 0 || m.begin < 0 || m.end > 10079) return false;
        for (Storm s : storms) {
          if (s.field == m.from && in(m.begin, s.from, s.to - 1) || s.field == m.to && in(m.end, s.from, s.to - 1)) return false;
        }
      }
      for (int i = 1; i < moves.size(); i++) if (moves.get(i).begin - moves.get(i - 1).end < plane.turn) return false;
      for (int i = 0; i < moves.size(); ) {
        int day = moves.get(i).begin / 1440;
        int j = i;
        while (j + 1 < moves.size() && moves.get(j + 1).begin - moves.get(j).end < rule(day, 1)) j++;
        if (moves.get(j).end - moves.get(i).begin > rule(day, 0)) return false;
        i = j + 1;
      }
      return true;
    }

    List<Flight> chainAtHand(int p) {
      List<Flight> chain = live();
      chain.removeIf(f -> f.plane != p);
      return chain;
    }

    /** Of each plane and set of flights the empty minutes, -1 if that doesn't fit. */
    int[][] weighAll(List<Flight> live) {
      int[][] empty = new int[planes.size()][1 << live.size()];
      for (int p = 0; p < planes.size(); p++) {
        for (int set = 0; set < 1 << live.size(); set++) {
          List<Flight> chain = new ArrayList<>();
          for (int k = 0; k < live.size(); k++) if ((set >> k & 1) == 1) chain.add(live.get(k));
          empty[p][set] = chainFits(p, chain) ? moves(p, chain).stream().filter(Move::empty).mapToInt(Move::minutes).sum() : -1;
        }
      }
      return empty;
    }

    /** Tries all plans; they come in order of their rows, so the first of like ones is the least. */
    int[] search(boolean leastChanged) {
      List<Flight> live = live();
      int[][] empty = weighAll(live);
      int[] row = new int[live.size()];
      int[] best = null;
      int[] bestRow = null;
      int choices = planes.size() + 1;
      long all = Math.round(Math.pow(choices, live.size()));
      for (long n = 0; n < all; n++) {
        long rest = n;
        int[] sets = new int[choices];
        int unflown = 0, moved = 0;
        for (int k = live.size() - 1; k >= 0; k--) {
          row[k] = (int) (rest % choices);
          rest /= choices;
          sets[row[k]] |= 1 << k;
          if (row[k] == planes.size()) unflown++;
          if (live.get(k).plane >= 0 && live.get(k).plane != row[k]) moved++;
        }
        int minutes = 0;
        for (int p = 0; p < planes.size() && minutes >= 0; p++) minutes = empty[p][sets[p]] < 0 ? -1 : minutes + empty[p][sets[p]];
        if (minutes < 0) continue;
        int[] key = {unflown, leastChanged ? moved : 0, minutes, moved};
        if (best == null || Arrays.compare(key, 0, 3, best, 0, 3) < 0) {
          best = key;
          bestRow = row.clone();
        }
      }
      for (int k = 0; k < live.size(); k++) live.get(k).plane = bestRow[k] == planes.size() ? -1 : bestRow[k];
      mendOffers();
      return new int[] {live.size() - best[0], best[3]};
    }

    int fits() {
      for (int p = 0; p < planes.size(); p++) if (!chainFits(p, chainAtHand(p))) return 0;
      return 1;
    }

    Move at(int p, int i) {
      if (!in(p, 0, planes.size() - 1)) return null;
      List<Move> moves = moves(p, chainAtHand(p));
      return in(i, 0, moves.size() - 1) ? moves.get(i) : null;
    }

    int move(int p, int i, int what) {
      Move m = at(p, i);
      if (m == null || !in(what, 0, 4)) return -1;
      if (what == 0) return m.empty ? -1 : m.ahead.number;
      if (what == 1) return m.from;
      if (what == 2) return m.to;
      if (m.minutes == 0) return -1;
      return what == 3 ? m.begin : m.end;
    }

    static boolean same(Offer o, int p, Move m) {
      return m.empty && o.plane == p && o.flight == m.ahead.number && o.from == m.from && o.to == m.to;
    }

    void mendOffers() {
      for (Offer o : offers) {
        boolean there = false;
        for (int p = 0; p < planes.size(); p++) for (Move m : moves(p, chainAtHand(p))) there |= same(o, p, m);
        if (o.state <= 1 && !there) o.state = 3;
        if (o.state == 0 && clock > o.till) o.state = 2;
      }
    }

    int offer(int p, int i, int price, int till) {
      Move m = at(p, i);
      if (m == null || !m.empty || !in(price, 0, 1000000) || !in(till, 0, 10079) || till < clock || offers.size() == 40) return -1;
      for (Offer o : offers) if (o.state <= 1 && same(o, p, m)) return -1;
      Offer o = new Offer();
      o.price = price;
      o.till = till;
      o.plane = p;
      o.flight = m.ahead.number;
      o.from = m.from;
      o.to = m.to;
      offers.add(o);
      return offers.size() - 1;
    }

    boolean take(int o, int client) {
      if (!in(o, 0, offers.size() - 1) || !in(client, 0, 99) || offers.get(o).state != 0) return false;
      offers.get(o).state = 1;
      offers.get(o).client = client;
      return true;
    }

    int told(int o, int what) {
      if (!in(o, 0, offers.size() - 1) || !in(what, 0, 5)) return -1;
      Offer x = offers.get(o);
      return new int[] {x.state, x.price, x.till, x.client, x.plane, x.flight}[what];
    }

    int on(int f) {
      return in(f, 0, flights.size() - 1) ? flights.get(f).plane : -1;
    }

    long bill(int f) {
      int p = on(f);
      if (p < 0) return -1;
      long minutes = 0, less = 0;
      for (Move m : moves(p, chainAtHand(p))) {
        if (m.ahead.number != f) continue;
        if (m.minutes == 0) return -1;
        minutes += m.minutes;
        for (Offer o : offers) if (o.state == 1 && same(o, p, m)) less += o.price / 2;
      }
      return Math.max(0, planes.get(p).rate * minutes - less);
    }

    int look(int f, int what) {
      if (!in(f, 0, flights.size() - 1) || !in(what, 0, 5)) return -1;
      Flight x = flights.get(f);
      return new int[] {x.from, x.to, x.start, x.seats, x.cancelled ? 1 : 0, ways[x.from][x.to]}[what];
    }

    int count(int what) {
      if (!in(what, 0, 8)) return -1;
      int flown = 0, empty = 0;
      for (int p = 0; p < planes.size(); p++) {
        for (Move m : moves(p, chainAtHand(p))) {
          if (m.empty) empty += m.minutes; else flown++;
        }
      }
      return new int[] {planes.size(), flights.size(), live().size(), flown, empty, storms.size(), offers.size(), clock, tape.length()}[what];
    }
  }

  private static final int[] ODD = {-1, -2, 7, 8, 9, 20, 40, 100, 601, 10079, 10080, 1000001, Integer.MIN_VALUE, Integer.MAX_VALUE};

  private final Random random;
  private final EmptyLegs x = new EmptyLegs();
  private final Model model = new Model();
  private final int fields;
  private final int span;
  private final int odd;
  private final StringBuilder story = new StringBuilder();
  private int asked = 0;
  private int flownMost = 0;

  private ModelTest(long seed) {
    random = new Random(seed);
    fields = 2 + random.nextInt(7);
    span = new int[] {400, 1500, 4000, 10080}[random.nextInt(4)];
    odd = random.nextInt(3) * 4;
  }

  private int pick(int least, int most) {
    if (random.nextInt(100) < odd) return ODD[random.nextInt(ODD.length)];
    return least + random.nextInt(most - least + 1);
  }

  private boolean same(String call, long got, long want) {
    asked++;
    if (got == want) return true;
    System.out.println(story + call + " answered " + got + ", due is " + want);
    return false;
  }

  private boolean told(String call, long got, long want) {
    boolean same = same(call, got, want);
    story.append(call).append(" = ").append(want).append('\n');
    return same;
  }

  private static long bit(boolean b) {
    return b ? 1 : 0;
  }

  private String lawText() {
    StringBuilder text = new StringBuilder();
    int clauses = 1 + random.nextInt(4);
    for (int c = 0; c < clauses; c++) {
      if (c > 0) text.append(';');
      boolean duty = random.nextBoolean();
      int most = new int[] {80, 200, 700, 2000, 10020}[random.nextInt(5)];
      text.append(duty ? 'd' : 'r').append(random.nextInt(8) == 0 ? "0" : "").append(duty ? 55 + random.nextInt(most) : random.nextInt(most));
    }
    if (random.nextInt(4) == 0) text.setCharAt(random.nextInt(text.length()), "dr;0123456789 x\0".charAt(random.nextInt(16)));
    if (random.nextInt(9) == 0) text.deleteCharAt(random.nextInt(text.length()));
    return text.toString();
  }

  private boolean tellLaw() {
    String text = lawText();
    int[] five = new int[10];
    for (int i = 0; i < 40; i++) five[i / 4] = five[i / 4] << 8 | (i < text.length() ? text.charAt(i) : random.nextInt(256));
    boolean ok = told("feed", x.feed(five[0], five[1], five[2], five[3], five[4]), model.feed(five[0], five[1], five[2], five[3], five[4]));
    if (text.length() > 20) ok &= told("feed", x.feed(five[5], five[6], five[7], five[8], five[9]), model.feed(five[5], five[6], five[7], five[8], five[9]));
    if (random.nextInt(20) == 0) return ok;
    int day = pick(0, span / 1440 > 6 ? 6 : span / 1440);
    int n = random.nextInt(10) == 0 ? pick(0, 40) : text.length();
    return ok & told("law(" + day + ", '" + text + "', " + n + ")", x.law(day, n), model.law(day, n));
  }

  private boolean step(int kind) {
    if (kind < 3) {
      int a = pick(0, fields - 1), b = pick(0, fields - 1), w = random.nextInt(8) == 0 ? 0 : pick(10, random.nextInt(9) == 0 ? 600 : 90);
      return told("way(" + a + ", " + b + ", " + w + ")", bit(x.way(a, b, w)), bit(model.way(a, b, w)));
    }
    if (kind < 4) {
      int a = pick(0, fields - 1), b = pick(4, 30), c = pick(0, random.nextInt(3) == 0 ? 180 : 30), d = pick(1, 1000);
      return told("plane(" + a + ", " + b + ", " + c + ", " + d + ")", x.plane(a, b, c, d), model.plane(a, b, c, d));
    }
    if (kind < 12) {
      int a = pick(0, fields - 1), b = pick(0, fields - 1), c = pick(0, span - 1), d = pick(1, random.nextInt(4) == 0 ? 30 : 6);
      return told("flight(" + a + ", " + b + ", " + c + ", " + d + ")", x.flight(a, b, c, d), model.flight(a, b, c, d));
    }
    if (kind < 15) {
      int f = pick(0, Math.max(0, model.flights.size() - 1));
      if (model.live().size() < 6 && random.nextInt(4) != 0) return true;
      return told("cancel(" + f + ")", bit(x.cancel(f)), bit(model.cancel(f)));
    }
    if (kind < 16) {
      int a = pick(0, fields - 1), b = pick(0, span - 1), c = b + pick(0, random.nextInt(4) == 0 ? 300 : 20);
      if (random.nextInt(2) == 0) return true;
      return told("storm(" + a + ", " + b + ", " + c + ")", x.storm(a, b, c), model.storm(a, b, c));
    }
    if (kind < 17) {
      int m = model.clock + pick(-1, 30);
      return told("clock(" + m + ")", bit(x.clock(m)), bit(model.clock(m)));
    }
    if (kind < 19) return tellLaw();
    if (kind < 22) {
      int due = model.search(false)[0];
      flownMost = Math.max(flownMost, due);
      return told("plan()", x.plan(), due);
    }
    if (kind < 25) return told("replan()", x.replan(), model.search(true)[1]);
    if (kind < 28) {
      int p = pick(0, Math.max(0, model.planes.size() - 1)), i = pick(0, 6), c = pick(0, random.nextBoolean() ? 100 : 1000000), t = pick(model.clock - 1, model.clock + 90);
      return told("offer(" + p + ", " + i + ", " + c + ", " + t + ")", x.offer(p, i, c, t), model.offer(p, i, c, t));
    }
    int o = pick(0, Math.max(0, model.offers.size() - 1)), c = pick(0, 99);
    return told("take(" + o + ", " + c + ")", bit(x.take(o, c)), bit(model.take(o, c)));
  }

  /** Everything that can be asked without a change. */
  private boolean agree() {
    boolean ok = same("fits()", x.fits(), model.fits());
    for (int what = -1; what <= 9; what++) ok &= same("count(" + what + ")", x.count(what), model.count(what));
    for (int day = -1; day <= 7; day++) for (int what = -1; what <= 2; what++) ok &= same("rule", x.rule(day, what), model.rule(day, what));
    for (int f = -1; f <= model.flights.size(); f++) {
      ok &= same("on(" + f + ")", x.on(f), model.on(f));
      ok &= same("bill(" + f + ")", x.bill(f), model.bill(f));
      for (int what = -1; what <= 6; what++) ok &= same("look(" + f + ", " + what + ")", x.look(f, what), model.look(f, what));
    }
    for (int p = -1; p <= model.planes.size(); p++) {
      for (int i = -1; i <= 17; i++) {
        for (int what = -1; what <= 5; what++) ok &= same("move(" + p + ", " + i + ", " + what + ")", x.move(p, i, what), model.move(p, i, what));
      }
    }
    for (int o = -1; o <= model.offers.size(); o++) {
      for (int what = -1; what <= 6; what++) ok &= same("told(" + o + ", " + what + ")", x.told(o, what), model.told(o, what));
    }
    return ok;
  }

  private boolean run() {
    for (int a = 0; a < fields; a++) {
      for (int b = 0; b < a; b++) if (random.nextInt(5) != 0 && !step(0)) return false;
    }
    int planes = random.nextInt(5);
    for (int p = 0; p < planes; p++) if (!step(3)) return false;
    for (int n = 0; n < 120; n++) if (!step(random.nextInt(30)) || !agree()) return false;
    return true;
  }

  public static void main(String[] args) {
    int runs = args.length > 0 ? Integer.parseInt(args[0]) : 300;
    long asked = 0;
    int[] flown = new int[9];
    int[] states = new int[4];
    for (int seed = 1; seed <= runs; seed++) {
      ModelTest test = new ModelTest(seed);
      boolean ok = test.run();
      asked += test.asked;
      flown[test.flownMost]++;
      for (Offer o : test.model.offers) states[o.state]++;
      if (!ok) {
        System.out.println("seed " + seed + ": not as due");
        System.exit(1);
      }
    }
    System.out.println(asked + " answers agree; most flown in a run: " + Arrays.toString(flown) + ", offers by state: " + Arrays.toString(states));
  }
}
