import java.math.BigInteger;
import java.util.ArrayList;
import java.util.HashMap;
import java.util.List;
import java.util.Map;
import java.util.TreeMap;

/**
 * The document told once more, plainly and slowly, apart from the class: lists that are searched, a tree of
 * runs, fractions of BigIntegers. ModelTest puts the same calls to both.
 */
public final class Model {
    static final int BAD = -1, STATE = -2, FULL = -3, NONE = -4;
    static final String[] KIND_NAMES = {"plain", "fat", "young", "boar"};

    static final class World {
        final List<int[]> pegs = new ArrayList<>();
        final List<Integer> slugs = new ArrayList<>();
        final List<int[]> hedgehogs = new ArrayList<>();
        final List<int[]> suits = new ArrayList<>();

        World copy() {
            World w = new World();
            for (int[] p : pegs) w.pegs.add(p.clone());
            w.slugs.addAll(slugs);
            for (int[] h : hedgehogs) w.hedgehogs.add(h.clone());
            for (int[] s : suits) w.suits.add(s.clone());
            return w;
        }

        int pegAt(int cell) {
            for (int i = 0; i < pegs.size(); i++) if (pegs.get(i)[0] == cell) return i;
            return -1;
        }

        boolean free(int cell) {
            return pegAt(cell) < 0 && !slugs.contains(cell);
        }
    }

    static final class Trace {
        int rest = NONE, who = NONE, end = 10, met = 0, opens = 0;
        final Map<Integer, Integer> columns = new TreeMap<>();
    }

    World now = new World();
    final World[] images = new World[2];
    final List<int[]> seen = new ArrayList<>();
    final StringBuilder tape = new StringBuilder();
    final Object[] sheets = new Object[4];
    int fault = 0;
    int torn = 0;

    static boolean in(int x, int low, int high) {
        return low <= x && x <= high;
    }

    static boolean cell(int c) {
        return in(c, 0, 99) && in(c % 10, 0, 7);
    }

    static int loses(int kind) {
        int plain = 2, fat = plain + 1;
        return new int[] {plain, fat, plain / 2, 2 * fat}[kind];
    }

    static int turned(int kind, int row, int column, boolean other) {
        boolean even = row % 2 == 0;
        int by;
        if (kind == 0) by = even ? -1 : 1;
        else if (kind == 1) by = even ? 1 : -1;
        else if (kind == 2) by = 1;
        else by = even ? 2 : -2;
        if (other) by = -by;
        int to = column + by;
        return to < 0 ? 0 : to > 7 ? 7 : to;
    }

    static Trace trace(World w, int kind, int speed, int column) {
        Trace t = new Trace();
        for (int row = 0; row < 10; row++) {
            t.columns.put(row, column);
            int at = row * 10 + column;
            if (w.slugs.contains(at)) { t.opens = 1; t.end = row; return t; }
            int p = w.pegAt(at);
            if (p < 0) continue;
            t.met++;
            speed -= loses(kind);
            if (speed <= 0) { t.rest = p; t.who = w.pegs.get(p)[1]; t.end = row; return t; }
            column = turned(kind, row, column, false);
        }
        return t;
    }

    static Trace trace(World w, int h, int column) {
        return trace(w, w.hedgehogs.get(h)[0], w.hedgehogs.get(h)[1], column);
    }

    static Trace traceSuit(World w, int i) {
        return trace(w, w.suits.get(i)[0], w.suits.get(i)[1]);
    }

    static int wonBits(World w, int k) {
        int bits = 0;
        for (int i = 0; i < w.suits.size(); i++) if (traceSuit(w, i).who == k) bits += 1 << i;
        return bits;
    }

    static int wonCount(World w, int k) {
        int n = 0;
        for (int i = 0; i < w.suits.size(); i++) if (traceSuit(w, i).who == k) n++;
        return n;
    }

    boolean noPeg(int i) { return i < 0 || i >= now.pegs.size(); }
    boolean noHog(int h) { return h < 0 || h >= now.hedgehogs.size(); }

    // ---- the text

    public int feed(int c) {
        if (!in(c, 0, 127)) return BAD;
        if (tape.length() == 160) return FULL;
        tape.append((char) c);
        return tape.length();
    }

    public int end(int n) {
        if (!in(n, 0, tape.length())) return BAD;
        int had = tape.length();
        tape.setLength(n);
        return had;
    }

    /** A fault that ends the reading: its number, its place. */
    static final class Fault extends RuntimeException {
        final int number, place;
        Fault(int number, int place) { this.number = number; this.place = place; }
    }

    private String source;
    private int at;
    private int tokenAt;

    /** The next token's text; "" at the end. */
    private String token() {
        while (at < source.length() && source.charAt(at) == 32) at++;
        tokenAt = at;
        if (at == source.length()) return "";
        String rest = source.substring(at);
        String word = rest.replaceFirst("(?s)^([a-z]+|[0-9]+|;)?.*$", "$1");
        if (word.isEmpty()) throw new Fault(1, at);
        if (Character.isDigit(word.charAt(0)) && word.length() > 2) throw new Fault(1, at);
        at += word.length();
        return word;
    }

    private int number(int low, int high, boolean isCell) {
        String t = token();
        if (t.isEmpty() || !Character.isDigit(t.charAt(0))) throw new Fault(2, tokenAt);
        int v = Integer.parseInt(t);
        if (!in(v, low, high) || isCell && v % 10 >= 8) throw new Fault(3, tokenAt);
        return v;
    }

    private void semicolon() {
        if (!token().equals(";")) throw new Fault(2, tokenAt);
    }

    private static final Map<String, Integer> MOST = new HashMap<>();
    static { MOST.put("peg", 7); MOST.put("slug", 4); MOST.put("suit", 6); }

    public int text() {
        source = tape.toString();
        tape.setLength(0);
        at = 0;
        World w = new World();
        int lines = 0;
        try {
            for (String name = token(); !name.isEmpty(); name = token()) {
                int kind = List.of(KIND_NAMES).indexOf(name);
                if (name.equals("peg")) {
                    if (w.pegs.size() == 7) throw new Fault(5, tokenAt);
                    int c = number(0, 99, true);
                    if (!w.free(c)) throw new Fault(4, tokenAt);
                    w.pegs.add(new int[] {c, number(0, 3, false)});
                } else if (name.equals("slug")) {
                    if (w.slugs.size() == 4) throw new Fault(5, tokenAt);
                    int c = number(0, 99, true);
                    if (!w.free(c)) throw new Fault(4, tokenAt);
                    w.slugs.add(c);
                } else if (name.equals("suit")) {
                    if (w.suits.size() == 6) throw new Fault(5, tokenAt);
                    int h = number(0, 3, false);
                    w.suits.add(new int[] {h, number(0, 7, false)});
                } else if (kind >= 0) {
                    if (w.hedgehogs.size() == 4) throw new Fault(5, tokenAt);
                    w.hedgehogs.add(new int[] {kind, number(1, 9, false)});
                } else {
                    throw new Fault(2, tokenAt);
                }
                semicolon();
                lines++;
            }
            for (int[] s : w.suits) if (s[0] >= w.hedgehogs.size()) throw new Fault(6, source.length());
        } catch (Fault f) {
            fault = f.number;
            return -10 - f.place;
        }
        fault = 0;
        now = w;
        seen.clear();
        images[0] = null;
        images[1] = null;
        return lines;
    }

    public int fault() { return fault; }

    public int rule(int what) {
        if (what == 0) return now.pegs.size();
        if (what == 1) return now.slugs.size();
        if (what == 2) return now.hedgehogs.size();
        if (what == 3) return now.suits.size();
        if (!in(what, 4, 5)) return BAD;
        int bits = 0;
        for (int i = 0; i < now.suits.size(); i++) {
            Trace t = traceSuit(now, i);
            if (what == 4 ? t.who >= 0 : t.opens == 1) bits += 1 << i;
        }
        return bits;
    }

    public int peg(int i, int what) {
        if (noPeg(i) || !in(what, 0, 2)) return BAD;
        if (what < 2) return now.pegs.get(i)[what];
        int bits = 0;
        for (int s = 0; s < now.suits.size(); s++) if (traceSuit(now, s).rest == i) bits += 1 << s;
        return bits;
    }

    public int slug(int i) { return in(i, 0, now.slugs.size() - 1) ? now.slugs.get(i) : BAD; }

    public int hedgehog(int h, int what) {
        if (noHog(h) || !in(what, 0, 3)) return BAD;
        if (what < 2) return now.hedgehogs.get(h)[what];
        if (what == 2) return loses(now.hedgehogs.get(h)[0]);
        int bits = 0;
        for (int c = 0; c < 8; c++) if (trace(now, h, c).rest >= 0) bits += 1 << c;
        return bits;
    }

    public int suit(int i, int what) {
        if (!in(i, 0, now.suits.size() - 1) || !in(what, 0, 2)) return BAD;
        return what < 2 ? now.suits.get(i)[what] : traceSuit(now, i).who;
    }

    // ---- changes

    public int shift(int i, int c) {
        if (noPeg(i) || !cell(c)) return BAD;
        int there = now.pegAt(c);
        if (there >= 0 && there != i || now.slugs.contains(c)) return STATE;
        int was = now.pegs.get(i)[0];
        now.pegs.get(i)[0] = c;
        return was;
    }

    public int rag(int i, int k) {
        if (noPeg(i) || !in(k, 0, 3)) return BAD;
        int was = now.pegs.get(i)[1];
        now.pegs.get(i)[1] = k;
        return was;
    }

    public int alter(int h, int what, int v) {
        if (noHog(h) || !in(what, 0, 1) || !in(v, what, what == 0 ? 3 : 9)) return BAD;
        int was = now.hedgehogs.get(h)[what];
        now.hedgehogs.get(h)[what] = v;
        return was;
    }

    public int drive(int c, int k) {
        if (!cell(c) || !in(k, 0, 3)) return BAD;
        if (!now.free(c)) return STATE;
        if (now.pegs.size() == 7) return FULL;
        now.pegs.add(new int[] {c, k});
        return now.pegs.size();
    }

    public int lay(int c) {
        if (!cell(c)) return BAD;
        if (!now.free(c)) return STATE;
        if (now.slugs.size() == 4) return FULL;
        now.slugs.add(c);
        return now.slugs.size();
    }

    private static <T> int shorten(List<T> list, int n) {
        if (!in(n, 0, list.size())) return BAD;
        int had = list.size();
        list.subList(n, had).clear();
        return had;
    }

    public int clear(int n) { return shorten(now.slugs, n); }

    public int sue(int h, int c) {
        if (noHog(h) || !in(c, 0, 7)) return BAD;
        if (now.suits.size() == 6) return FULL;
        now.suits.add(new int[] {h, c});
        return now.suits.size();
    }

    public int drop(int n) { return shorten(now.suits, n); }

    // ---- runs

    public int run(int h, int c, int what) {
        if (noHog(h) || !in(c, 0, 7) || !in(what, 0, 4)) return BAD;
        Trace t = trace(now, h, c);
        return new int[] {t.rest, t.who, t.end, t.met, t.opens}[what];
    }

    public int way(int h, int c, int row) {
        if (noHog(h) || !in(c, 0, 7) || !in(row, 0, 9)) return BAD;
        return trace(now, h, c).columns.getOrDefault(row, NONE);
    }

    public int wins(int k) { return in(k, 0, 3) ? wonBits(now, k) : BAD; }

    public int share(int h, int k) {
        if (noHog(h) || !in(k, 0, 3)) return BAD;
        int n = 0;
        for (int c = 0; c < 8; c++) if (trace(now, h, c).who == k) n++;
        return n;
    }

    public int first(int h, int k) {
        if (noHog(h) || !in(k, 0, 3)) return BAD;
        for (int c = 0; c < 8; c++) if (trace(now, h, c).who == k) return c;
        return NONE;
    }

    public int kindly(int h, int c, int k) {
        if (noHog(h) || !in(c, 0, 7) || !in(k, 0, 3)) return BAD;
        int bits = 0;
        for (int kind = 0; kind < 4; kind++) {
            World w = now.copy();
            w.hedgehogs.get(h)[0] = kind;
            if (trace(w, h, c).who == k) bits += 1 << kind;
        }
        return bits;
    }

    // ---- what is best

    /** Of what could be chosen (in order) that with the most, or the fewest, the first. */
    private static int chosen(TreeMap<Integer, Integer> choices, boolean most, int what) {
        if (choices.isEmpty()) return NONE;
        int best = -1;
        for (int key : choices.keySet()) {
            if (best < 0) best = key;
            else if (most && choices.get(key) > choices.get(best)) best = key;
            else if (!most && choices.get(key) < choices.get(best)) best = key;
        }
        return what == 0 ? best : choices.get(best);
    }

    public int place(int k, int what) {
        if (!in(k, 0, 3) || !in(what, 0, 1)) return BAD;
        if (now.pegs.size() == 7) return FULL;
        TreeMap<Integer, Integer> choices = new TreeMap<>();
        for (int c = 0; c < 98; c++) {
            if (!cell(c) || !now.free(c)) continue;
            World w = now.copy();
            w.pegs.add(new int[] {c, k});
            choices.put(c, wonCount(w, k));
        }
        return chosen(choices, true, what);
    }

    public int move(int i, int what) {
        if (noPeg(i) || !in(what, 0, 1)) return BAD;
        TreeMap<Integer, Integer> choices = new TreeMap<>();
        for (int c = 0; c < 98; c++) {
            if (!cell(c) || !now.free(c) && now.pegAt(c) != i) continue;
            World w = now.copy();
            w.pegs.get(i)[0] = c;
            choices.put(c, wonCount(w, w.pegs.get(i)[1]));
        }
        return chosen(choices, true, what);
    }

    public int bribe(int k, int what) {
        if (!in(k, 0, 3) || !in(what, 0, 1)) return BAD;
        if (now.slugs.size() == 4) return FULL;
        TreeMap<Integer, Integer> choices = new TreeMap<>();
        for (int c = 0; c < 98; c++) {
            if (!cell(c) || !now.free(c)) continue;
            World w = now.copy();
            w.slugs.add(c);
            int others = 0;
            for (int other = 0; other < 4; other++) if (other != k) others += wonCount(w, other);
            choices.put(c, others);
        }
        return chosen(choices, false, what);
    }

    public int need(int h, int c) {
        if (noHog(h) || !in(c, 0, 7)) return BAD;
        for (int speed = 1; speed <= 9; speed++) {
            if (trace(now, now.hedgehogs.get(h)[0], speed, c).end == 10) return speed;
        }
        return NONE;
    }

    public int swap(int k, int what) {
        if (!in(k, 0, 3) || !in(what, 0, 1)) return BAD;
        TreeMap<Integer, Integer> choices = new TreeMap<>();
        for (int a = 0; a < now.hedgehogs.size(); a++) {
            for (int b = a + 1; b < now.hedgehogs.size(); b++) {
                World w = now.copy();
                for (int[] s : w.suits) s[0] = s[0] == a ? b : s[0] == b ? a : s[0];
                if (wonCount(w, k) > wonCount(now, k)) choices.put(10 * a + b, wonCount(w, k));
            }
        }
        return chosen(choices, true, what);
    }

    public int pull(int k, int what) {
        if (!in(k, 0, 3) || !in(what, 0, 1)) return BAD;
        TreeMap<Integer, Integer> choices = new TreeMap<>();
        for (int i = 0; i < now.pegs.size(); i++) {
            World w = now.copy();
            w.pegs.remove(i);
            if (wonCount(w, k) > wonCount(now, k)) choices.put(i, wonCount(w, k));
        }
        return chosen(choices, true, what);
    }

    // ---- turns the other way

    /** Sums over all runs: who wins (k) or how many pegs are met (k < 0), over 10 to the turns each. */
    private BigInteger[] tree(int v, int kind, int speed, int row, int column, int k) {
        BigInteger zero = BigInteger.ZERO, one = BigInteger.ONE;
        int at = row * 10 + column;
        if (row == 10 || now.slugs.contains(at)) return new BigInteger[] {zero, one};
        int p = now.pegAt(at);
        if (p < 0) return tree(v, kind, speed, row + 1, column, k);
        int left = speed - loses(kind);
        if (left <= 0) {
            boolean counts = k < 0 || now.pegs.get(p)[1] == k;
            return new BigInteger[] {counts ? one : zero, one};
        }
        BigInteger[] so = tree(v, kind, left, row + 1, turned(kind, row, column, false), k);
        BigInteger[] other = tree(v, kind, left, row + 1, turned(kind, row, column, true), k);
        BigInteger ten = BigInteger.TEN;
        BigInteger top = so[0].multiply(other[1]).multiply(BigInteger.valueOf(10 - v))
            .add(other[0].multiply(so[1]).multiply(BigInteger.valueOf(v)));
        BigInteger bottom = so[1].multiply(other[1]).multiply(ten);
        if (k < 0) top = top.add(bottom);
        return lowest(top, bottom);
    }

    private static BigInteger[] lowest(BigInteger top, BigInteger bottom) {
        BigInteger g = top.gcd(bottom);
        return new BigInteger[] {top.divide(g), bottom.divide(g)};
    }

    public long luck(int v, int h, int c, int k, int what) {
        if (!in(v, 0, 10) || noHog(h) || !in(c, 0, 7) || !in(k, 0, 3) || !in(what, 0, 1)) return BAD;
        int[] hog = now.hedgehogs.get(h);
        return tree(v, hog[0], hog[1], 0, c, k)[what].longValueExact();
    }

    public long mean(int v, int h, int c, int what) {
        if (!in(v, 0, 10) || noHog(h) || !in(c, 0, 7) || !in(what, 0, 1)) return BAD;
        int[] hog = now.hedgehogs.get(h);
        return tree(v, hog[0], hog[1], 0, c, -1)[what].longValueExact();
    }

    // ---- which it was

    public int see(int h, int c, int i) {
        if (noHog(h) || !in(c, 0, 7) || !in(i, 0, 6) && i != 9) return BAD;
        if (seen.size() == 6) return FULL;
        seen.add(new int[] {h, c, i});
        return seen.size();
    }

    public int forget(int n) { return shorten(seen, n); }

    private boolean asSeen(World w) {
        for (int[] s : seen) {
            if (s[0] >= w.hedgehogs.size()) return false;
            int rest = trace(w, s[0], s[1]).rest;
            if ((rest < 0 ? 9 : rest) != s[2]) return false;
        }
        return true;
    }

    private List<Integer> fitting(int h, int what) {
        List<Integer> list = new ArrayList<>();
        for (int v = what; v <= (what == 0 ? 3 : 9); v++) {
            World w = now.copy();
            w.hedgehogs.get(h)[what] = v;
            if (asSeen(w)) list.add(v);
        }
        return list;
    }

    private static int bits(List<Integer> list) {
        int bits = 0;
        for (int v : list) bits += 1 << v;
        return bits;
    }

    public int kinds(int h) { return noHog(h) ? BAD : bits(fitting(h, 0)); }

    public int speeds(int h) { return noHog(h) ? BAD : bits(fitting(h, 1)); }

    public int ask(int h, int what) {
        if (noHog(h) || !in(what, 0, 1)) return BAD;
        List<Integer> speeds = fitting(h, 1);
        TreeMap<Integer, Integer> choices = new TreeMap<>();
        for (int c = 0; c < 8; c++) {
            Map<Integer, Integer> parts = new HashMap<>();
            int worst = 0;
            for (int speed : speeds) {
                int rest = trace(now, now.hedgehogs.get(h)[0], speed, c).rest;
                worst = Math.max(worst, parts.merge(rest, 1, Integer::sum));
            }
            if (worst < speeds.size()) choices.put(c, worst);
        }
        return chosen(choices, false, what);
    }

    // ---- by a seed

    public int drift(int seed, int n, int what) {
        if (!in(n, 1, 60) || !in(what, 0, 1)) return BAD;
        if (now.hedgehogs.isEmpty()) return STATE;
        World w = now.copy();
        BigInteger s = BigInteger.valueOf(seed);
        int rests = 0, ofNought = 0;
        for (int i = 0; i < n; i++) {
            s = s.multiply(BigInteger.valueOf(1103515245)).add(BigInteger.valueOf(12345));
            int got = s.shiftRight(16).mod(BigInteger.ONE.shiftLeft(15)).intValue();
            Trace t = trace(w, got % w.hedgehogs.size(), (got / 4) % 8);
            if (t.rest < 0) continue;
            rests++;
            if (t.who == 0) ofNought++;
            int c = 10 * ((got / 32) % 10) + (got / 320) % 8;
            if (w.free(c)) w.pegs.get(t.rest)[0] = c;
        }
        return what == 0 ? rests : ofNought;
    }

    // ---- images, sheets

    public int keep(int k) {
        if (!in(k, 0, 1)) return BAD;
        int was = images[k] == null ? 0 : 1;
        images[k] = now.copy();
        return was;
    }

    public int back(int k) {
        if (!in(k, 0, 1)) return BAD;
        if (images[k] == null) return STATE;
        now = images[k].copy();
        int n = 0;
        for (int one = 0; one < 4; one++) n += wonCount(now, one);
        return n;
    }

    public int sheet(int k, int lane, int n) {
        if (!in(k, 0, 3) || !in(lane, 0, 2) || n > 40) return BAD;
        if (n < 0) return -14;
        sheets[k] = lane == 0 ? new byte[n] : lane == 1 ? new short[n] : new int[n];
        return 1;
    }

    public int write(int k, int i, int v) {
        if (!in(k, 0, 3)) return BAD;
        try {
            if (sheets[k] == null) throw new NullPointerException();
            if (sheets[k] instanceof byte[] b) b[i] = (byte) v;
            else if (sheets[k] instanceof short[] s) s[i] = (short) v;
            else ((int[]) sheets[k])[i] = v;
            return 1;
        } catch (NullPointerException e) {
            return -11;
        } catch (ArrayIndexOutOfBoundsException e) {
            return -12;
        }
    }

    private int element(int k, int lane, int i) {
        if (lane == 0) return ((byte[]) sheets[k])[i];
        if (lane == 1) return ((short[]) sheets[k])[i];
        return ((int[]) sheets[k])[i];
    }

    public int read(int k, int lane, int f, int n) {
        if (!in(k, 0, 3) || !in(lane, 0, 2) || !in(n, 0, 20)) return BAD;
        World before = now.copy();
        int came = 0;
        int found = 0;
        try {
            for (int i = 0; i < n; i++) {
                int c = element(k, lane, f + 2 * i);
                int r = element(k, lane, f + 2 * i + 1);
                if (drive(c, r) < 0) {
                    now = before;
                    return -20 - i;
                }
                came++;
            }
        } catch (NullPointerException e) {
            found = 1;
        } catch (ArrayIndexOutOfBoundsException e) {
            found = 2;
        } catch (ClassCastException e) {
            found = 3;
        }
        torn = found;
        return came;
    }

    public int torn() { return torn; }

    public int count(int what) {
        if (what == 0) return seen.size();
        if (what == 1) return (images[0] == null ? 0 : 1) + (images[1] == null ? 0 : 1);
        if (what == 2) return tape.length();
        if (what == 3) return sheets[0] == null ? NONE : java.lang.reflect.Array.getLength(sheets[0]);
        int n = 0;
        if (what == 4) {
            for (int[] p : now.pegs) if (p[1] == 0) n++;
            return n;
        }
        if (what == 5) {
            for (int[] h : now.hedgehogs) n += h[1];
            return n;
        }
        return BAD;
    }
}
