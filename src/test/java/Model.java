import java.util.ArrayDeque;
import java.util.ArrayList;
import java.util.Arrays;
import java.util.HashSet;
import java.util.List;
import java.util.Set;

/**
 * The document once more, written as plainly as can be and with none of the class's shortcuts, to be held against it:
 * SHEETS are made anew by every ACT and remember where the walker was; ways and rows are found by trying them all.
 */
final class Model {
  private static final class Lead {
    int kind;
    int to;

    Lead(int kind, int to) {
      this.kind = kind;
      this.to = to;
    }
  }

  private static final class Cell {
    int sign;
    boolean plate;
    Lead[] leads = new Lead[4];
  }

  private static final class Stand {
    int cell;
    int turn;
    boolean on;

    Stand(int cell, int turn, boolean on) {
      this.cell = cell;
      this.turn = turn;
      this.on = on;
    }

    String name() {
      return cell + "," + turn + "," + on;
    }
  }

  private static final class Step {
    int act;
    boolean bumped;
    int sign;
    boolean pebble;
  }

  private static final class Map {
    List<Integer> signs = new ArrayList<>();
    List<int[]> leads = new ArrayList<>();
    List<Integer> history = new ArrayList<>();
    int walker = 0;
    int pebble = -2;

    void place(int sign) {
      signs.add(sign);
      leads.add(new int[] {-3, -3, -3, -3, -3});
    }

    Map twin() {
      Map m = new Map();
      m.signs.addAll(signs);
      for (int[] l : leads) {
        m.leads.add(l.clone());
      }
      m.history.addAll(history);
      m.walker = walker;
      m.pebble = pebble;
      return m;
    }
  }

  private final List<Cell> cells = new ArrayList<>();
  private boolean started = false;
  private Stand stand;
  private int pebble;
  private final List<Step> steps = new ArrayList<>();
  private List<Map> maps = new ArrayList<>();
  private boolean spent;
  private int most;
  private List<Integer> way = new ArrayList<>();
  private final Map hand = new Map();
  private final Object[] shelves = new Object[8];

  Model() {
    for (int p = 0; p < 6; p++) {
      hand.place(0);
    }
  }

  int cell(int sign, boolean plate) {
    if (sign < 0 || sign > 3) return -1;
    if (cells.size() == 10) return -2;
    Cell c = new Cell();
    c.sign = sign;
    c.plate = plate;
    for (int i = 0; i < 4; i++) c.leads[i] = new Lead(0, 0);
    cells.add(c);
    return cells.size() - 1;
  }

  int lead(int cell, int i, int kind, int to) {
    if (cell < 0 || cell >= cells.size() || i < 0 || i > 3 || kind < 0 || kind > 5) return -1;
    if (kind != 0 && (to < 0 || to >= cells.size())) return -1;
    Lead before = cells.get(cell).leads[i];
    cells.get(cell).leads[i] = new Lead(kind, to);
    return before.kind;
  }

  int start(int m) {
    if (m < 1 || m > 6) return -1;
    if (cells.isEmpty()) return -2;
    started = true;
    stand = new Stand(0, 0, false);
    pebble = -2;
    steps.clear();
    spent = false;
    most = m;
    Map first = new Map();
    first.place(cells.get(0).sign);
    first.history.add(0);
    maps = new ArrayList<>();
    maps.add(first);
    return 0;
  }

  /** Null: a BUMP. */
  private Stand step(Stand s, int act) {
    Cell c = cells.get(s.cell);
    if (act == 4) return new Stand(s.cell, s.turn, c.plate ? !s.on : s.on);
    int i = (act + s.turn) % 4;
    Lead l = c.leads[i];
    if (l.kind == 0) return null;
    if ((l.kind == 2 || l.kind == 5) && !s.on) return null;
    Stand to = new Stand(l.to, s.turn, s.on);
    if (l.kind == 4) to.turn = (s.turn + 1) % 4;
    if (l.kind == 5) to.on = false;
    if (l.kind == 3) {
      int more = 0;
      while (more < 10 && cells.get(to.cell).leads[i].kind == 3) {
        to.cell = cells.get(to.cell).leads[i].to;
        more++;
      }
    }
    return to;
  }

  int act(int act) {
    if (act < 0 || act > 5) return -1;
    if (!started) return -2;
    if (steps.size() == 200) return -3;
    Step st = new Step();
    st.act = act;
    String done = "nothing";
    if (act == 5) {
      if (pebble == -2) {
        pebble = stand.cell;
        done = "dropped";
      } else if (pebble == stand.cell) {
        pebble = -2;
        done = "took";
      }
    } else {
      Stand to = step(stand, act);
      st.bumped = to == null;
      if (to != null) stand = to;
    }
    st.sign = cells.get(stand.cell).sign;
    st.pebble = pebble == stand.cell;
    steps.add(st);
    List<Map> behind = new ArrayList<>();
    for (Map m : maps) {
      if (act == 5) {
        if (done.equals("dropped")) m.pebble = m.walker;
        if (done.equals("took")) m.pebble = -2;
        behind.add(m);
      } else {
        behind.addAll(followers(m, st));
      }
    }
    for (Map m : behind) m.history.add(m.walker);
    maps = behind;
    if (maps.size() > 150) {
      spent = true;
      maps = new ArrayList<>();
    }
    return st.bumped ? 1 : 0;
  }

  private List<Map> followers(Map m, Step st) {
    List<Map> out = new ArrayList<>();
    int lead = m.leads.get(m.walker)[st.act];
    if (lead == -2) {
      if (st.bumped) out.add(m.twin());
    } else if (lead >= 0) {
      if (!st.bumped && m.signs.get(lead) == st.sign && (m.pebble == lead) == st.pebble) {
        Map t = m.twin();
        t.walker = lead;
        out.add(t);
      }
    } else if (st.bumped) {
      Map t = m.twin();
      t.leads.get(t.walker)[st.act] = -2;
      out.add(t);
    } else {
      for (int p = 0; p < m.signs.size(); p++) {
        if (m.signs.get(p) == st.sign && (m.pebble == p) == st.pebble) {
          Map t = m.twin();
          t.leads.get(t.walker)[st.act] = p;
          t.walker = p;
          out.add(t);
        }
      }
      if (m.signs.size() < most && !st.pebble) {
        Map t = m.twin();
        t.leads.get(t.walker)[st.act] = m.signs.size();
        t.walker = m.signs.size();
        t.place(st.sign);
        out.add(t);
      }
    }
    return out;
  }

  int seen(int what) {
    if (what < 0 || what > 3) return -1;
    if (!started) return -2;
    if (what == 0) return cells.get(stand.cell).sign;
    if (what == 1) return pebble == stand.cell ? 1 : 0;
    if (what == 2) return !steps.isEmpty() && steps.get(steps.size() - 1).bumped ? 1 : 0;
    return pebble == -2 ? 1 : 0;
  }

  int walk(int i, int what) {
    if (i < 0 || i >= steps.size() || what < 0 || what > 3) return -1;
    Step s = steps.get(i);
    return new int[] {s.act, s.bumped ? 1 : 0, s.sign, s.pebble ? 1 : 0}[what];
  }

  int sheets() {
    return !started ? -2 : spent ? -3 : maps.size();
  }

  private Map map(int k) {
    return k < 0 || k >= maps.size() ? null : maps.get(k);
  }

  int sheet(int k, int what) {
    Map m = map(k);
    if (m == null || what < 0 || what > 3) return -1;
    int known = 0;
    for (int[] l : m.leads) {
      for (int to : l) {
        if (to != -3) known++;
      }
    }
    return new int[] {m.signs.size(), m.walker, m.pebble, known}[what];
  }

  int leads(int k, int place, int act) {
    Map m = map(k);
    if (m == null || place < 0 || place >= m.signs.size() || act < 0 || act > 4) return -1;
    return m.leads.get(place)[act];
  }

  int sign(int k, int place) {
    Map m = map(k);
    return m == null || place < 0 || place >= m.signs.size() ? -1 : m.signs.get(place);
  }

  int known() {
    if (sheets() < 0) return sheets();
    if (maps.size() != 1) return 0;
    Map m = maps.get(0);
    for (int p = 0; p < m.signs.size(); p++) {
      if (shortest(m, p) != null) {
        for (int to : m.leads.get(p)) {
          if (to == -3) return 0;
        }
      }
    }
    return 1;
  }

  int one(int i, int j) {
    if (sheets() < 0) return sheets();
    if (maps.isEmpty() || i < 0 || j < 0 || i > steps.size() || j > steps.size()) return -1;
    Set<Boolean> said = new HashSet<>();
    for (Map m : maps) said.add(m.history.get(i).equals(m.history.get(j)));
    return said.size() == 2 ? 2 : said.contains(true) ? 1 : 0;
  }

  private static int[] digits(int n, int number) {
    int[] row = new int[n];
    for (int i = n - 1; i >= 0; i--) {
      row[i] = number % 5;
      number /= 5;
    }
    return row;
  }

  private static String shown(Map m, int[] row) {
    StringBuilder b = new StringBuilder();
    int at = m.walker;
    for (int a : row) {
      int lead = at < 0 ? -3 : m.leads.get(at)[a];
      if (lead == -3) {
        at = -1;
        b.append("?;");
      } else {
        if (lead >= 0) at = lead;
        b.append(lead == -2).append(m.signs.get(at)).append(m.pebble == at).append(';');
      }
    }
    return b.toString();
  }

  private int sets(int[] row) {
    Set<String> all = new HashSet<>();
    for (Map m : maps) all.add(shown(m, row));
    return all.size();
  }

  private static int rows(int n) {
    int all = 1;
    for (int i = 0; i < n; i++) all *= 5;
    return all;
  }

  int part(int n, int acts) {
    if (n < 1 || n > 6 || acts < 0 || acts >= rows(n)) return -1;
    if (sheets() < 0) return sheets();
    return maps.isEmpty() ? -1 : sets(digits(n, acts));
  }

  int next(int n) {
    if (n < 1 || n > 3) return -1;
    if (sheets() < 0) return sheets();
    if (maps.isEmpty()) return -1;
    int top = 0;
    int told = 0;
    for (int length = n; length >= 1; length--) {
      for (int number = rows(length) - 1; number >= 0; number--) {
        int parts = sets(digits(length, number));
        if (parts >= top) {
          top = parts;
          told = 200 * length + number;
        }
      }
    }
    return told;
  }

  /** All rows in the order of their length, then of their digits: the first one that comes there. */
  private static List<Integer> shortest(Map m, int goal) {
    ArrayDeque<List<Integer>> rows = new ArrayDeque<>();
    rows.add(new ArrayList<>());
    Set<Integer> had = new HashSet<>();
    while (!rows.isEmpty()) {
      List<Integer> row = rows.poll();
      int at = m.walker;
      for (int a : row) at = m.leads.get(at)[a];
      if (at == goal) return row;
      if (had.add(at)) {
        for (int a = 0; a < 5; a++) {
          if (m.leads.get(at)[a] >= 0) {
            List<Integer> longer = new ArrayList<>(row);
            longer.add(a);
            rows.add(longer);
          }
        }
      }
    }
    return null;
  }

  int go(int k, int place) {
    Map m = map(k);
    if (m == null || place < 0 || place >= m.signs.size()) return -1;
    List<Integer> row = shortest(m, place);
    if (row == null) return -2;
    way = row;
    return way.size();
  }

  int way(int i) {
    return i < 0 || i >= way.size() ? -1 : way.get(i);
  }

  int hand(int p, int sign, int leads) {
    if (p < 0 || p > 5 || sign < 0 || sign > 3 || leads < 0 || leads >= 8 * 8 * 8 * 8 * 8) return -1;
    hand.signs.set(p, sign);
    for (int a = 0; a < 5; a++) {
      int digit = leads % 8;
      leads /= 8;
      hand.leads.get(p)[a] = digit < 6 ? digit : digit == 7 ? -3 : a == 4 ? p : -2;
    }
    return 0;
  }

  int fits() {
    if (!started) return -2;
    if (hand.signs.get(0) != cells.get(0).sign) return -4;
    int at = 0;
    int lies = -2;
    for (int i = 0; i < steps.size(); i++) {
      Step s = steps.get(i);
      boolean bump = false;
      if (s.act == 5) {
        lies = lies == -2 ? at : lies == at ? -2 : lies;
      } else {
        int lead = hand.leads.get(at)[s.act];
        if (lead == -3) return i + 1;
        bump = lead == -2;
        at = bump ? at : lead;
      }
      if (bump != s.bumped || hand.signs.get(at) != s.sign || (lies == at) != s.pebble) return i + 1;
    }
    return 0;
  }

  int isTrue(int k) {
    Map m = map(k);
    if (m == null) return -1;
    return alike(m, m.walker, stand, new HashSet<>()) ? 1 : 0;
  }

  private boolean alike(Map m, int place, Stand s, Set<String> had) {
    if (m.signs.get(place) != cells.get(s.cell).sign) return false;
    if (!had.add(place + ":" + s.name())) return true;
    for (int a = 0; a < 5; a++) {
      int lead = m.leads.get(place)[a];
      if (lead != -3) {
        Stand to = step(s, a);
        if (to == null && lead != -2 || to != null && lead == -2) return false;
        if (to != null && !alike(m, lead, to, had)) return false;
      }
    }
    return true;
  }

  int count(int what) {
    if (what < 0 || what > 5) return -1;
    if (what == 0) return cells.size();
    if (!started) return -2;
    return new int[] {0, stand.cell, stand.turn, stand.on ? 1 : 0, steps.size(), pebble}[what];
  }

  int reached() {
    if (!started) return -2;
    Set<String> had = new HashSet<>();
    spread(stand, had);
    return had.size();
  }

  private void spread(Stand s, Set<String> had) {
    if (had.add(s.name())) {
      for (int a = 0; a < 5; a++) {
        Stand to = step(s, a);
        if (to != null) spread(to, had);
      }
    }
  }

  int keep(int d, int what, int k) {
    if (d < 0 || d > 7) return -1;
    Object held = null;
    if (what == 1) {
      if (k < 0 || k / 4 >= cells.size()) return -1;
      held = cells.get(k / 4).leads[k % 4];
    } else if (what == 3) {
      if (!started) return -1;
      List<Step> late = steps.subList(Math.max(0, steps.size() - 60), steps.size());
      byte[] row = new byte[late.size()];
      for (int i = 0; i < row.length; i++) row[i] = (byte) late.get(i).act;
      held = row;
    } else if (what == 4) {
      if (map(k) == null) return -1;
      held = map(k).signs.stream().mapToLong(s -> s).toArray();
    } else if (what != 0) {
      return -1;
    }
    shelves[d] = held;
    return 0;
  }

  int make(int d, int what, int n) {
    if (d < 0 || d > 7 || what != 3 && what != 4 || n > 60) return -1;
    if (n < 0) return -14;
    shelves[d] = what == 3 ? (Object) new byte[n] : new long[n];
    return 0;
  }

  private static long[] row(Object held) {
    if (held instanceof long[]) return ((long[]) held).clone();
    if (!(held instanceof byte[])) return null;
    byte[] b = (byte[]) held;
    long[] row = new long[b.length];
    for (int i = 0; i < b.length; i++) row[i] = b[i];
    return row;
  }

  long element(int d, int i) {
    if (d < 0 || d > 7) return Check.NO_SHELF;
    long[] row = row(shelves[d]);
    return row == null || i < 0 || i >= row.length ? Check.NO_ELEMENT : row[i];
  }

  int copy(int d, int i, int e, int j, int n) {
    if (d < 0 || d > 7 || e < 0 || e > 7) return -1;
    if (shelves[d] == null || shelves[e] == null) return -11;
    long[] from = row(shelves[d]);
    long[] to = row(shelves[e]);
    if (from == null || to == null || shelves[d].getClass() != shelves[e].getClass()) return -12;
    if (n < 0 || i < 0 || j < 0 || (long) i + n > from.length || (long) j + n > to.length) return -13;
    for (int t = 0; t < n; t++) {
      if (shelves[e] instanceof long[]) ((long[]) shelves[e])[j + t] = from[i + t];
      else ((byte[]) shelves[e])[j + t] = (byte) from[i + t];
    }
    return n;
  }

  int weight(int d) {
    if (d < 0 || d > 7) return -1;
    if (shelves[d] == null) return -11;
    if (!(shelves[d] instanceof Lead)) return -12;
    Lead l = (Lead) shelves[d];
    if (l.kind == 0) return 1;
    int w = 10 + l.to;
    if (l.kind == 2 || l.kind == 5) w += 100;
    if (l.kind == 5) w *= 2;
    if (l.kind == 3) w += 1000;
    if (l.kind == 4) w += 2000;
    return w;
  }

  int toss(int d) {
    int w = weight(d);
    if (w < 0) return w;
    return w == 1 ? -15 : ((Lead) shelves[d]).to;
  }

  String rowAsText(int d) {
    return Arrays.toString(row(shelves[d]));
  }
}
