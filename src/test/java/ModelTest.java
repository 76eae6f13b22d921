import java.util.Random;

/** Runs of calls drawn by fixed seeds, each answer held against Model; all promises, and wrong inputs among them. */
public final class ModelTest {
  private static final int RUNS = 3000;
  private static final int CALLS = 512;
  /** A start, an ACT, and a copy() with the elements behind it. */
  private static final int MOST_IN_A_ROUND = 15;
  private static final int[] ODD = {-1, -2, 7, 8, 10, 60, 61, 200, 32768, Integer.MIN_VALUE, Integer.MAX_VALUE};

  private final Random random;
  private final RoomMapper x = new RoomMapper();
  private final Model y = new Model();
  private final String run;
  private final int signs;
  private final int oddity;
  private int calls = 0;

  private ModelTest(int seed) {
    random = new Random(seed);
    run = "run " + seed + ": ";
    signs = 1 + random.nextInt(4);
    oddity = random.nextInt(3) == 0 ? 10 : 200;
  }

  public static void main(String[] args) {
    int[] saw = new int[8];
    for (int seed = 0; seed < RUNS; seed++) {
      new ModelTest(seed).play(saw);
    }
    String[] names = {"SPENT", "no SHEETS", "KNOWN", "TRUE", "not TRUE", "a way of two or more", "one of some", "it fits"};
    for (int i = 0; i < saw.length; i++) {
      Check.due("the runs came to: " + names[i], saw[i] > 0 ? 1 : 0, 1);
    }
    Check.end();
  }

  private int pick(int size) {
    if (random.nextInt(oddity) == 0) {
      return ODD[random.nextInt(ODD.length)];
    }
    return size <= 0 ? 0 : random.nextInt(size);
  }

  private void due(String name, long got, long want, int... args) {
    calls++;
    StringBuilder b = new StringBuilder(run).append("call ").append(calls).append(": ").append(name).append('(');
    for (int a : args) {
      b.append(a).append(' ');
    }
    Check.due(b.append(')').toString(), got, want);
  }

  private void play(int[] saw) {
    if (random.nextInt(5) == 0) {
      for (int i = 0; i < 20; i++) {
        any();
      }
    }
    build(1 + random.nextInt(random.nextInt(3) == 0 ? 9 : 3));
    while (calls <= CALLS - MOST_IN_A_ROUND) {
      if (random.nextInt(60) == 0) {
        start();
      }
      act();
      if (random.nextInt(3) > 0) {
        any();
      }
      look(saw);
    }
  }

  private void look(int[] saw) {
    if (y.sheets() == -3) saw[0]++;
    if (y.sheets() == 0) saw[1]++;
    if (y.known() == 1) saw[2]++;
    if (y.isTrue(0) == 1) saw[3]++;
    if (y.isTrue(0) == 0) saw[4]++;
    if (y.way(1) >= 0) saw[5]++;
    if (y.one(0, y.count(4)) == 2) saw[6]++;
    if (y.fits() == 0 && y.count(4) > 3) saw[7]++;
  }

  private void build(int cells) {
    for (int i = 0; i < cells; i++) {
      int sign = random.nextInt(signs);
      boolean plate = random.nextInt(3) == 0;
      due("cell", x.cell(sign, plate), y.cell(sign, plate), sign, plate ? 1 : 0);
    }
    boolean plain = random.nextBoolean();
    for (int i = 0; i < 4 * cells; i++) {
      int kind = plain ? random.nextInt(2) : random.nextInt(6);
      int to = random.nextInt(cells);
      due("lead", x.lead(i / 4, i % 4, kind, to), y.lead(i / 4, i % 4, kind, to), i / 4, i % 4, kind, to);
    }
    start();
  }

  private void start() {
    int m = 1 + pick(6);
    due("start", x.start(m), y.start(m), m);
  }

  private void act() {
    int a = random.nextInt(5) == 0 ? pick(6) : random.nextInt(1 + random.nextInt(5));
    due("act", x.act(a), y.act(a), a);
  }

  private void any() {
    int k = pick(y.sheets());
    int p = pick(6);
    int a = pick(5);
    int w = pick(4);
    int d = pick(8);
    switch (random.nextInt(26)) {
      case 0: sometimesLead(); break;
      case 1: due("seen", x.seen(w), y.seen(w), w); break;
      case 2: walk(); break;
      case 3: due("sheets", x.sheets(), y.sheets()); break;
      case 4: due("sheet", x.sheet(k, w), y.sheet(k, w), k, w); break;
      case 5: due("leads", x.leads(k, p, a), y.leads(k, p, a), k, p, a); break;
      case 6: due("sign", x.sign(k, p), y.sign(k, p), k, p); break;
      case 7: due("known", x.known(), y.known()); break;
      case 8: one(); break;
      case 9: part(); break;
      case 10: due("next", x.next(1 + w), y.next(1 + w), 1 + w); break;
      case 11: case 12: due("go", x.go(k, p), y.go(k, p), k, p); break;
      case 13: due("way", x.way(w), y.way(w), w); break;
      case 14: case 15: hand(); break;
      case 16: due("fits", x.fits(), y.fits()); break;
      case 17: due("isTrue", x.isTrue(k), y.isTrue(k), k); break;
      case 18: due("count", x.count(p), y.count(p), p); break;
      case 19: due("reached", x.reached(), y.reached()); break;
      case 20: keep(d); break;
      case 21: make(d); break;
      case 22: elements(d); break;
      case 23: copy(); break;
      case 24: due("weight", x.weight(d), y.weight(d), d); break;
      default: due("toss", x.toss(d), y.toss(d), d); break;
    }
  }

  private void sometimesLead() {
    if (random.nextInt(4) > 0) {
      return;
    }
    int c = pick(10);
    int i = pick(4);
    int kind = pick(6);
    int to = pick(10);
    due("lead", x.lead(c, i, kind, to), y.lead(c, i, kind, to), c, i, kind, to);
    int sign = pick(4);
    due("cell", x.cell(sign, true), y.cell(sign, true), sign);
  }

  private void walk() {
    int i = pick(y.count(4) + 1);
    int w = pick(4);
    due("walk", x.walk(i, w), y.walk(i, w), i, w);
  }

  private void one() {
    int i = pick(y.count(4) + 2);
    int j = pick(y.count(4) + 2);
    due("one", x.one(i, j), y.one(i, j), i, j);
  }

  private void part() {
    int n = 1 + pick(6);
    int rows = 1;
    for (int i = 0; i < n && i < 7; i++) {
      rows *= 5;
    }
    int acts = pick(rows + 1);
    due("part", x.part(n, acts), y.part(n, acts), n, acts);
  }

  /** Half of them as a SHEET tells it, so that it often fits. */
  private void hand() {
    int k = pick(y.sheets());
    boolean copied = random.nextInt(4) > 0;
    for (int p = 0; p < (copied ? Math.max(1, y.sheet(k, 0)) : 1); p++) {
      int place = copied ? p : pick(6);
      int sign = copied && y.sign(k, p) >= 0 ? y.sign(k, p) : pick(4);
      int leads = copied ? 0 : pick(32769);
      for (int a = 4; a >= 0 && copied; a--) {
        int to = y.leads(k, p, a);
        leads = leads * 8 + (to >= 0 ? to : to == -2 ? 6 : random.nextInt(20) == 0 ? 6 : 7);
      }
      due("hand", x.hand(place, sign, leads), y.hand(place, sign, leads), place, sign, leads);
    }
    due("fits", x.fits(), y.fits());
  }

  private void keep(int d) {
    int what = pick(5);
    int k = pick(what == 1 ? 41 : y.sheets());
    due("keep", x.keep(d, what, k), y.keep(d, what, k), d, what, k);
  }

  private void make(int d) {
    int what = random.nextInt(8) == 0 ? pick(5) : 3 + random.nextInt(2);
    int n = random.nextInt(8) == 0 ? pick(63) - 1 : pick(8);
    due("make", x.make(d, what, n), y.make(d, what, n), d, what, n);
  }

  private void elements(int d) {
    int from = pick(60);
    for (int i = from; i < from + 3 && i >= from; i++) {
      due("element", Check.element(x, d, i), y.element(d, i), d, i);
    }
  }

  private void copy() {
    int d = pick(8);
    int e = random.nextInt(3) == 0 ? d : pick(8);
    int i = pick(6);
    int j = pick(6);
    int n = pick(6);
    due("copy " + (d >= 0 && d < 8 ? y.rowAsText(d) : ""), x.copy(d, i, e, j, n), y.copy(d, i, e, j, n), d, i, e, j, n);
    for (int t = 0; t < 12; t++) {
      due("element", Check.element(x, e, t), y.element(e, t), e, t);
    }
  }
}
