import java.util.ArrayDeque;
import java.util.ArrayList;
import java.util.Collections;
import java.util.Comparator;
import java.util.Deque;
import java.util.List;
import java.util.Random;
import java.util.TreeMap;
import java.util.TreeSet;

/** Long runs of calls by a fixed seed, each answer held against a model that follows the document word by word. */
public final class HaloTreesAgainstModel {
  private static final int NONE = -1, UNKNOWN = -1000000001, OUTSIDE = -1000000002, NOT = -1000000003, FULL = -1000000004;
  private static final int RUNS = 200;
  private static final int CALLS = 512;
  private static int wrong = 0;

  /** A picture is a map of grains to places; nothing is held that can be reckoned. */
  private static final class State {
    final List<TreeMap<Integer, int[]>> pictures = new ArrayList<>();
    final int[] weights = new int[24];
    int length = 8;
    int least = 2;

    State() { java.util.Arrays.fill(weights, 1); }

    State copy() {
      State c = new State();
      for (TreeMap<Integer, int[]> picture : pictures) c.pictures.add(new TreeMap<>(picture));
      System.arraycopy(weights, 0, c.weights, 0, 24);
      c.length = length;
      c.least = least;
      return c;
    }
  }

  private static final class Knot {
    int grain;
    int depth;
    Knot left;
    Knot right;
  }

  private static final class Model {
    State s = new State();
    final Deque<State> past = new ArrayDeque<>();
    final State[] images = new State[2];

    void remember() {
      past.addLast(s.copy());
      if (past.size() > 8) past.removeFirst();
    }

    boolean noPicture(int p) { return p < 0 || p >= s.pictures.size(); }
    boolean noGrain(int g) { return g < 0 || g > 23; }
    boolean out(int v, int low, int high) { return v < low || v > high; }
    boolean noHalo(int p, int h) { return noPicture(p) || h < 0 || h >= halos(p).size(); }

    int weight(Iterable<Integer> grains) {
      int sum = 0;
      for (int g : grains) sum += s.weights[g];
      return sum;
    }

    int set(Iterable<Integer> members) {
      int set = 0;
      for (int m : members) set += 1 << m;
      return set;
    }

    int way(int[] a, int[] b) { return (a[0] - b[0]) * (a[0] - b[0]) + (a[1] - b[1]) * (a[1] - b[1]); }

    boolean linked(int p, int a, int b, int length) {
      return a != b && way(s.pictures.get(p).get(a), s.pictures.get(p).get(b)) <= length * length;
    }

    List<TreeSet<Integer>> clumps(int p, Iterable<Integer> grains, int length) {
      List<TreeSet<Integer>> clumps = new ArrayList<>();
      for (int g : grains) {
        TreeSet<Integer> mine = new TreeSet<>(List.of(g));
        List<TreeSet<Integer>> others = new ArrayList<>();
        for (TreeSet<Integer> clump : clumps) {
          boolean joins = false;
          for (int m : clump) joins |= linked(p, g, m, length);
          if (joins) mine.addAll(clump); else others.add(clump);
        }
        others.add(mine);
        clumps = others;
      }
      return clumps;
    }

    List<TreeSet<Integer>> clumps(int p) { return clumps(p, s.pictures.get(p).keySet(), s.length); }

    TreeSet<Integer> clumpOf(int p, int g, int length) {
      for (TreeSet<Integer> clump : clumps(p, s.pictures.get(p).keySet(), length)) if (clump.contains(g)) return clump;
      return new TreeSet<>();
    }

    List<TreeSet<Integer>> halos(int p) {
      List<TreeSet<Integer>> halos = new ArrayList<>();
      for (TreeSet<Integer> clump : clumps(p)) if (weight(clump) >= s.least) halos.add(clump);
      Comparator<TreeSet<Integer>> byWeight = Comparator.comparing(c -> -weight(c));
      halos.sort(byWeight.thenComparing(TreeSet::first));
      return halos;
    }

    int shared(int p, int h, int next) {
      TreeSet<Integer> both = new TreeSet<>(halos(p).get(h));
      both.retainAll(halos(p + 1).get(next));
      return weight(both);
    }

    int goesOn(int p, int h) {
      if (p + 1 >= s.pictures.size()) return NONE;
      int best = NONE;
      for (int k = halos(p + 1).size() - 1; k >= 0; k--) {
        int common = shared(p, h, k);
        if (common > 0 && (best == NONE || common >= shared(p, h, best))) best = k;
      }
      return best;
    }

    List<Integer> from(int p, int h) {
      List<Integer> from = new ArrayList<>();
      if (p > 0) for (int k = 0; k < halos(p - 1).size(); k++) if (goesOn(p - 1, k) == h) from.add(k);
      return from;
    }

    int main(int p, int h) {
      int best = NONE;
      for (int k : from(p, h)) {
        if (best == NONE || weight(halos(p - 1).get(k)) > weight(halos(p - 1).get(best))) best = k;
      }
      return best;
    }

    List<Integer> branch(int p, int h) {
      List<Integer> branch = new ArrayList<>();
      branch.add(h);
      int main = main(p, h);
      if (main != NONE) branch.addAll(branch(p - 1, main));
      return branch;
    }

    int strayed(int p, int h) {
      if (p + 1 >= s.pictures.size()) return 0;
      TreeSet<Integer> grains = new TreeSet<>(halos(p).get(h));
      grains.retainAll(s.pictures.get(p + 1).keySet());
      int on = goesOn(p, h);
      if (on != NONE) grains.removeAll(halos(p + 1).get(on));
      return weight(grains);
    }

    Knot tree(int p, List<Integer> grains, int depth) {
      if (grains.isEmpty()) return null;
      int first = depth % 2;
      Comparator<Integer> order = Comparator.comparing(g -> s.pictures.get(p).get(g)[first]);
      List<Integer> row = new ArrayList<>(grains);
      row.sort(order.thenComparing(g -> s.pictures.get(p).get(g)[1 - first]).thenComparing(g -> g));
      int ahead = row.size() / 2;
      Knot knot = new Knot();
      knot.grain = row.get(ahead);
      knot.depth = depth;
      knot.left = tree(p, row.subList(0, ahead), depth + 1);
      knot.right = tree(p, row.subList(ahead + 1, row.size()), depth + 1);
      return knot;
    }

    Knot tree(int p) { return tree(p, new ArrayList<>(s.pictures.get(p).keySet()), 0); }
    int height(Knot k) { return k == null ? 0 : 1 + Math.max(height(k.left), height(k.right)); }

    Knot find(Knot k, int g) {
      if (k == null || k.grain == g) return k;
      Knot found = find(k.left, g);
      return found != null ? found : find(k.right, g);
    }

    int looked(int p, Knot k, int[] place, int w) {
      if (k == null) return 0;
      int d = place[k.depth % 2] - s.pictures.get(p).get(k.grain)[k.depth % 2];
      int count = 1;
      if (d <= 0 || d * d <= w) count += looked(p, k.left, place, w);
      if (d >= 0 || d * d <= w) count += looked(p, k.right, place, w);
      return count;
    }

    int holds(int p, int g) {
      TreeSet<Integer> rest = clumpOf(p, g, s.length);
      rest.remove(g);
      return clumps(p, rest, s.length).size() > 1 ? 1 : 0;
    }

    int degree(int p, int g) {
      int count = 0;
      for (int o : s.pictures.get(p).keySet()) if (linked(p, g, o, s.length)) count++;
      return count;
    }

    int steps(int p, int a, int b) {
      TreeMap<Integer, Integer> far = new TreeMap<>();
      Deque<Integer> row = new ArrayDeque<>();
      if (s.pictures.get(p).containsKey(a)) {
        far.put(a, 0);
        row.add(a);
      }
      while (!row.isEmpty()) {
        int g = row.remove();
        for (int o : s.pictures.get(p).keySet()) {
          if (!far.containsKey(o) && linked(p, g, o, s.length)) {
            far.put(o, far.get(g) + 1);
            row.add(o);
          }
        }
      }
      return far.getOrDefault(b, NONE);
    }

    int drift(int seed) {
      long[] x = {seed};
      TreeMap<Integer, int[]> before = s.pictures.isEmpty() ? null : s.pictures.get(s.pictures.size() - 1);
      TreeMap<Integer, int[]> picture = new TreeMap<>();
      for (int g = 0; g < 24; g++) {
        boolean was = before != null && before.containsKey(g);
        boolean in = before == null ? next(x, 4) != 0 : (next(x, 16) == 0) != was;
        if (in && was) {
          int[] old = before.get(g);
          picture.put(g, new int[] {clamp(old[0] + next(x, 7) - 3), clamp(old[1] + next(x, 7) - 3)});
        } else if (in) {
          picture.put(g, new int[] {next(x, 64), next(x, 64)});
        }
      }
      s.pictures.add(picture);
      return picture.size();
    }

    int next(long[] x, int by) {
      x[0] = x[0] * 16807 % 2147483647;
      return (int) (x[0] % by);
    }

    int clamp(int v) { return v < 0 ? 0 : v > 63 ? 63 : v; }

    int change(int call, int[] a) {
      switch (call) {
        case 0:
          if (s.pictures.size() == 6) return FULL;
          remember();
          s.pictures.add(new TreeMap<>());
          return s.pictures.size() - 1;
        case 1:
          if (s.pictures.isEmpty()) return NOT;
          remember();
          s.pictures.remove(s.pictures.size() - 1);
          return s.pictures.size();
        case 2:
          if (noPicture(a[0]) || noGrain(a[1])) return UNKNOWN;
          if (out(a[2], 0, 63) || out(a[3], 0, 63)) return OUTSIDE;
          remember();
          return s.pictures.get(a[0]).put(a[1], new int[] {a[2], a[3]}) == null ? 0 : 1;
        case 3:
          if (noPicture(a[0]) || noGrain(a[1])) return UNKNOWN;
          if (!s.pictures.get(a[0]).containsKey(a[1])) return NOT;
          remember();
          s.pictures.get(a[0]).remove(a[1]);
          return s.pictures.get(a[0]).size();
        case 4:
          if (noGrain(a[0])) return UNKNOWN;
          if (out(a[1], 1, 9)) return OUTSIDE;
          remember();
          int weighed = s.weights[a[0]];
          s.weights[a[0]] = a[1];
          return weighed;
        case 5:
          if (out(a[0], 0, 1) || a[0] == 0 && out(a[1], 0, 40) || a[0] == 1 && out(a[1], 1, 99)) return OUTSIDE;
          remember();
          int bound = a[0] == 0 ? s.length : s.least;
          if (a[0] == 0) s.length = a[1]; else s.least = a[1];
          return bound;
        case 6:
          if (out(a[0], 1, 999999)) return OUTSIDE;
          if (s.pictures.size() == 6) return FULL;
          remember();
          return drift(a[0]);
        case 7:
          if (past.isEmpty()) return NOT;
          s = past.removeLast();
          return past.size();
        case 21:
          if (out(a[0], 0, 1)) return UNKNOWN;
          images[a[0]] = s.copy();
          past.clear();
          return s.pictures.size();
        default:
          if (out(a[0], 0, 1)) return UNKNOWN;
          if (images[a[0]] == null) return NOT;
          s = images[a[0]].copy();
          past.clear();
          return s.pictures.size();
      }
    }

    int told(int what) {
      int halos = 0, ending = 0, beginning = 0, longest = 0;
      for (int p = 0; p < s.pictures.size(); p++) {
        for (int h = 0; h < halos(p).size(); h++) {
          halos++;
          if (p + 1 < s.pictures.size() && goesOn(p, h) == NONE) ending++;
          if (p > 0 && from(p, h).isEmpty()) beginning++;
          if (what == 6) longest = Math.max(longest, branch(p, h).size());
        }
      }
      int[] answers = {s.pictures.size(), s.length, s.least, halos, ending, beginning, longest, past.size()};
      return out(what, 0, 7) ? OUTSIDE : answers[what];
    }

    int ofPicture(int p, int what) {
      if (noPicture(p)) return UNKNOWN;
      TreeMap<Integer, int[]> picture = s.pictures.get(p);
      int links = 0;
      for (int g : picture.keySet()) links += degree(p, g);
      Knot top = tree(p);
      int[] answers = {picture.size(), set(picture.keySet()), links / 2, clumps(p).size(), halos(p).size(), height(top),
          top == null ? NONE : top.grain, weight(picture.keySet())};
      return out(what, 0, 7) ? OUTSIDE : answers[what];
    }

    int grain(int p, int g, int what) {
      if (noPicture(p) || noGrain(g)) return UNKNOWN;
      if (out(what, 0, 7)) return OUTSIDE;
      if (what == 7) return s.weights[g];
      int[] place = s.pictures.get(p).get(g);
      if (place == null) return new int[] {NONE, NONE, 0, NONE, 0, 0, NONE}[what];
      int[] answers = {place[0], place[1], set(clumpOf(p, g, s.length)), halos(p).indexOf(clumpOf(p, g, s.length)), degree(p, g),
          holds(p, g), find(tree(p), g).depth};
      return answers[what];
    }

    int halo(int p, int h, int what) {
      if (noHalo(p, h)) return UNKNOWN;
      TreeSet<Integer> own = halos(p).get(h);
      int main = main(p, h);
      int ofMain = main == NONE ? 0 : weight(halos(p - 1).get(main));
      switch (what) {
        case 0: return set(own);
        case 1: return weight(own);
        case 2: return goesOn(p, h);
        case 3: return from(p, h).size();
        case 4: return main;
        case 5: return branch(p, h).size();
        case 6: return weight(own) - ofMain;
        case 7: return strayed(p, h);
        default: return OUTSIDE;
      }
    }

    int within(int p, int x, int y, int w, int what) {
      if (noPicture(p)) return UNKNOWN;
      if (out(x, 0, 63) || out(y, 0, 63) || out(w, 0, 9999) || out(what, 0, 3)) return OUTSIDE;
      int[] place = {x, y};
      TreeSet<Integer> in = new TreeSet<>();
      for (int g : s.pictures.get(p).keySet()) if (way(s.pictures.get(p).get(g), place) <= w) in.add(g);
      return new int[] {in.size(), set(in), weight(in), looked(p, tree(p), place, w)}[what];
    }

    int nearest(int p, int x, int y) {
      if (noPicture(p)) return UNKNOWN;
      if (out(x, 0, 63) || out(y, 0, 63)) return OUTSIDE;
      TreeMap<Integer, int[]> picture = s.pictures.get(p);
      if (picture.isEmpty()) return NONE;
      Comparator<Integer> order = Comparator.comparing(g -> way(picture.get(g), new int[] {x, y}));
      return Collections.min(picture.keySet(), order.thenComparing(g -> g));
    }

    int below(int p, int g, int side) {
      if (noPicture(p) || noGrain(g)) return UNKNOWN;
      if (out(side, 0, 1)) return OUTSIDE;
      Knot knot = find(tree(p), g);
      Knot next = knot == null ? null : side == 0 ? knot.left : knot.right;
      return next == null ? NONE : next.grain;
    }

    int join(int p, int a, int b) {
      if (noPicture(p) || noGrain(a) || noGrain(b) || a == b) return UNKNOWN;
      for (int length = 0; length <= 90; length++) if (clumpOf(p, a, length).contains(b)) return length;
      return NONE;
    }

    int ask(int call, int[] a) {
      switch (call) {
        case 8: return told(a[0]);
        case 9: return ofPicture(a[0], a[1]);
        case 10: return grain(a[0], a[1], a[2]);
        case 11: return halo(a[0], a[1], a[2]);
        case 12: return noHalo(a[0], a[1]) ? UNKNOWN : set(from(a[0], a[1]));
        case 13:
          if (noHalo(a[0], a[1])) return UNKNOWN;
          if (a[2] < 0) return OUTSIDE;
          return a[2] < branch(a[0], a[1]).size() ? branch(a[0], a[1]).get(a[2]) : NONE;
        case 14: return noHalo(a[0], a[1]) || noHalo(a[0] + 1, a[2]) ? UNKNOWN : shared(a[0], a[1], a[2]);
        case 15: return within(a[0], a[1], a[2], a[3], a[4]);
        case 16: return nearest(a[0], a[1], a[2]);
        case 17: return below(a[0], a[1], a[2]);
        case 18: return noPicture(a[0]) || noGrain(a[1]) || noGrain(a[2]) ? UNKNOWN : steps(a[0], a[1], a[2]);
        case 19:
          if (noPicture(a[0])) return UNKNOWN;
          return out(a[1], 0, 90) ? OUTSIDE : clumps(a[0], s.pictures.get(a[0]).keySet(), a[1]).size();
        case 20: return join(a[0], a[1], a[2]);
        default: return change(call, a);
      }
    }
  }

  private static int answer(HaloTrees t, int call, int[] a) {
    switch (call) {
      case 0: return t.picture();
      case 1: return t.drop();
      case 2: return t.put(a[0], a[1], a[2], a[3]);
      case 3: return t.lose(a[0], a[1]);
      case 4: return t.weigh(a[0], a[1]);
      case 5: return t.bound(a[0], a[1]);
      case 6: return t.drift(a[0]);
      case 7: return t.undo();
      case 8: return t.told(a[0]);
      case 9: return t.ofPicture(a[0], a[1]);
      case 10: return t.grain(a[0], a[1], a[2]);
      case 11: return t.halo(a[0], a[1], a[2]);
      case 12: return t.from(a[0], a[1]);
      case 13: return t.branch(a[0], a[1], a[2]);
      case 14: return t.common(a[0], a[1], a[2]);
      case 15: return t.within(a[0], a[1], a[2], a[3], a[4]);
      case 16: return t.nearest(a[0], a[1], a[2]);
      case 17: return t.below(a[0], a[1], a[2]);
      case 18: return t.steps(a[0], a[1], a[2]);
      case 19: return t.clumps(a[0], a[1]);
      case 20: return t.join(a[0], a[1], a[2]);
      case 21: return t.keep(a[0]);
      default: return t.goBack(a[0]);
    }
  }

  private static final String[] NAMES = {"picture", "drop", "put", "lose", "weigh", "bound", "drift", "undo", "told", "ofPicture",
      "grain", "halo", "from", "branch", "common", "within", "nearest", "below", "steps", "clumps", "join", "keep", "goBack"};

  // The kinds of arguments of each call: p picture, g grain, c a place's X or Y, e weight, o bound, v its value, s seed,
  // t told by 8, q by 4, h halo, k k, w way, 2 side, l length, i image.
  private static final String[] KINDS = {"", "", "pgcc", "pg", "ge", "ov", "s", "", "t", "pt", "pgt", "pht", "ph", "phk", "phh",
      "pccwq", "pcc", "pg2", "pgg", "pl", "pgg", "i", "i"};

  // How often each call comes, of a hundred or so; changes are rarer than questions, and what drops all is rarest.
  private static final int[] OFTEN = {4, 1, 24, 4, 5, 4, 4, 3, 6, 7, 9, 12, 4, 5, 5, 8, 3, 4, 5, 3, 2, 1, 1};

  private static int argument(Random r, char kind, int spread) {
    if (r.nextInt(40) == 0) return new int[] {-1, -2, 6, 24, 64, 100, 10000, Integer.MAX_VALUE, Integer.MIN_VALUE}[r.nextInt(9)];
    switch (kind) {
      case 'p': return r.nextInt(6);
      case 'g': return r.nextInt(24);
      case 'c': return r.nextInt(12) == 0 ? r.nextInt(2) * 63 : r.nextInt(spread);
      case 'e': return r.nextInt(12);
      case 'o': return r.nextInt(2);
      case 'v': return r.nextInt(3) == 0 ? r.nextInt(42) : r.nextInt(9);
      case 's': return r.nextInt(1000005);
      case 't': return r.nextInt(8);
      case 'q': return r.nextInt(4);
      case 'h': return r.nextInt(4) == 0 ? r.nextInt(9) : r.nextInt(3);
      case 'k': return r.nextInt(4);
      case 'w': return r.nextInt(2) == 0 ? r.nextInt(10001) : r.nextInt(spread * spread + 1);
      case '2': return r.nextInt(2);
      case 'l': return r.nextInt(92);
      default: return r.nextInt(2);
    }
  }

  private static int someCall(Random r) {
    int sum = 0;
    for (int often : OFTEN) sum += often;
    int at = r.nextInt(sum);
    for (int call = 0; call < OFTEN.length; call++) {
      at -= OFTEN[call];
      if (at < 0) return call;
    }
    return 0;
  }

  private static void run(int number) {
    Random r = new Random(number);
    int spread = new int[] {4, 12, 30, 64}[number % 4];
    HaloTrees t = new HaloTrees();
    Model model = new Model();
    for (int i = 0; i < CALLS && wrong < 20; i++) {
      int call = i < 3 ? (number % 3 == 0 ? 6 : 0) : someCall(r);
      int[] a = new int[KINDS[call].length()];
      for (int k = 0; k < a.length; k++) a[k] = argument(r, KINDS[call].charAt(k), spread);
      int got = answer(t, call, a);
      int want = model.ask(call, a);
      if (got != want) {
        wrong++;
        System.out.println("run " + number + ", call " + i + ": " + NAMES[call] + java.util.Arrays.toString(a) + " answered " + got
            + ", due is " + want);
      }
    }
  }

  public static void main(String[] args) {
    for (int number = 0; number < RUNS; number++) run(number);
    System.out.println(RUNS + " runs of " + CALLS + " calls, " + wrong + " answers not as the model's");
    if (wrong != 0) System.exit(1);
  }
}
