import java.util.ArrayList;
import java.util.HashMap;
import java.util.LinkedHashSet;
import java.util.List;
import java.util.Map;
import java.util.Set;
import java.util.TreeSet;
import java.util.regex.Matcher;
import java.util.regex.Pattern;

/**
 * The document's promises once more, written slowly and with the whole Java library, so that the class
 * and this model are unlikely to share a mistake. Method names are those of the public face.
 */
final class Model {
    static final class Fault extends RuntimeException {
        private static final long serialVersionUID = 1L;
        final int kind;
        final int place;

        Fault(int kind, int place) {
            this.kind = kind;
            this.place = place;
        }
    }

    record Token(String kind, String text, int place) { }

    /** A node of the formula. */
    interface Node {
        int of(Map<String, Integer> names);
    }

    static final class Told {
        Map<String, Integer> settings = new HashMap<>(Map.of("slots", 12, "range", 30, "wide", 2, "least", 2,
            "keeps", 3, "fades", 0, "draw", 0));
        List<String> names = new ArrayList<>();
        List<int[]> ships = new ArrayList<>(); // across, up, moves across, moves up, on
        Node reports;
        int units;

        int get(String key) {
            return settings.get(key);
        }
    }

    /** Parses by throwing the first fault. */
    static final class Parser {
        static final Set<String> RESERVED = Set.of("slots", "range", "wide", "least", "keeps", "ship", "at",
            "moves", "on", "reports", "fades", "draw", "or", "and", "not", "speed", "heard", "number", "frame");
        static final Map<String, int[]> BOUNDS = Map.of("slots", new int[] {6, 30}, "range", new int[] {1, 99},
            "wide", new int[] {0, 9}, "least", new int[] {1, 4}, "keeps", new int[] {1, 7},
            "fades", new int[] {0, 100}, "draw", new int[] {0, 999});
        static final Pattern LEXEME = Pattern.compile("[ \n]*(?:([a-z]+)|([0-9]+)([a-z]?)|([;()<>=+\\-*/%])|(.)|$)",
            Pattern.DOTALL);

        final List<Token> tokens = new ArrayList<>();
        final Told told = new Told();
        final Set<String> once = new TreeSet<>();
        int at;

        Parser(String text) {
            Matcher m = LEXEME.matcher(text);
            int from = 0;
            while (m.find(from)) {
                if (m.group(1) != null) {
                    String kind = m.group(1).length() > 8 ? "bad" : "word";
                    tokens.add(new Token(kind, m.group(1), m.start(1)));
                    from = m.end(1);
                } else if (m.group(2) != null) {
                    boolean bad = m.group(2).length() > 4 || !m.group(3).isEmpty();
                    tokens.add(new Token(bad ? "bad" : "number", m.group(2), m.start(2)));
                    from = m.end(2);
                } else if (m.group(4) != null) {
                    tokens.add(new Token("sign", m.group(4), m.start(4)));
                    from = m.end(4);
                } else if (m.group(5) != null) {
                    tokens.add(new Token("bad", m.group(5), m.start(5)));
                    from = m.end(5);
                } else {
                    break;
                }
            }
            tokens.add(new Token("end", "", text.length()));
        }

        Token peek() {
            return tokens.get(at);
        }

        Fault cannotStand() {
            return new Fault(peek().kind().equals("bad") ? 1 : 2, peek().place());
        }

        boolean is(String text) {
            Token t = peek();
            return (t.kind().equals("word") || t.kind().equals("sign")) && t.text().equals(text);
        }

        void take(String text) {
            if (!is(text)) throw cannotStand();
            at++;
        }

        int number(int low, int high) {
            Token t = peek();
            if (!t.kind().equals("number")) throw cannotStand();
            int value = Integer.parseInt(t.text());
            if (value < low || value > high) throw new Fault(4, t.place());
            at++;
            return value;
        }

        Told parse() {
            while (!peek().kind().equals("end")) line();
            return told;
        }

        void line() {
            if (is("ship")) {
                if (told.ships.size() == 6) throw cannotStand();
                at++;
                shipLine();
            } else if (is("reports")) {
                if (!once.add("reports")) throw cannotStand();
                at++;
                told.reports = either(0);
            } else if (peek().kind().equals("word") && BOUNDS.containsKey(peek().text())) {
                String key = peek().text();
                if (!once.add(key)) throw cannotStand();
                at++;
                told.settings.put(key, number(BOUNDS.get(key)[0], BOUNDS.get(key)[1]));
            } else {
                throw cannotStand();
            }
            take(";");
        }

        void shipLine() {
            Token name = peek();
            if (!name.kind().equals("word") || RESERVED.contains(name.text())) throw cannotStand();
            if (told.names.contains(name.text())) throw new Fault(3, name.place());
            at++;
            int[] ship = new int[5];
            take("at");
            ship[0] = number(0, 99);
            ship[1] = number(0, 99);
            if (is("moves")) {
                at++;
                ship[2] = number(0, 99);
                ship[3] = number(0, 99);
            }
            if (is("on")) {
                at++;
                ship[4] = number(0, 9);
            }
            told.names.add(name.text());
            told.ships.add(ship);
        }

        Node either(int within) {
            Node left = both(within);
            while (is("or")) {
                at++;
                Node a = left;
                Node b = both(within);
                left = n -> a.of(n) != 0 | b.of(n) != 0 ? 1 : 0;
            }
            return left;
        }

        Node both(int within) {
            Node left = one(within);
            while (is("and")) {
                at++;
                Node a = left;
                Node b = one(within);
                left = n -> a.of(n) != 0 & b.of(n) != 0 ? 1 : 0;
            }
            return left;
        }

        Node one(int within) {
            if (is("not")) {
                if (within >= 7) throw cannotStand();
                at++;
                Node a = one(within + 1);
                return n -> a.of(n) == 0 ? 1 : 0;
            }
            Node a = sum(within);
            for (String sign : new String[] {"<", ">", "="}) {
                if (is(sign)) {
                    at++;
                    Node b = sum(within);
                    return switch (sign) {
                        case "<" -> n -> a.of(n) < b.of(n) ? 1 : 0;
                        case ">" -> n -> a.of(n) > b.of(n) ? 1 : 0;
                        default -> n -> a.of(n) == b.of(n) ? 1 : 0;
                    };
                }
            }
            return a;
        }

        Node sum(int within) {
            Node left = term(within);
            while (is("+") || is("-")) {
                boolean plus = is("+");
                at++;
                Node a = left;
                Node b = term(within);
                left = n -> plus ? a.of(n) + b.of(n) : a.of(n) - b.of(n);
            }
            return left;
        }

        Node term(int within) {
            Node left = unit(within);
            while (is("*") || is("/") || is("%")) {
                String sign = peek().text();
                at++;
                Node a = left;
                Node b = unit(within);
                left = n -> {
                    int x = a.of(n);
                    int y = b.of(n);
                    if (sign.equals("*")) return x * y;
                    if (y == 0) return 0;
                    return sign.equals("/") ? x / y : x % y;
                };
            }
            return left;
        }

        Node unit(int within) {
            if (told.units == 30) throw cannotStand();
            if (is("(")) {
                if (within >= 7) throw cannotStand();
                told.units++;
                at++;
                Node inner = either(within + 1);
                take(")");
                return inner;
            }
            Token t = peek();
            if (t.kind().equals("number")) {
                int value = number(0, 9999);
                told.units++;
                return n -> value;
            }
            if (t.kind().equals("word") && Set.of("speed", "heard", "number", "frame").contains(t.text())) {
                at++;
                told.units++;
                return n -> n.get(t.text());
            }
            throw cannotStand();
        }
    }

    static final class Owned {
        int slot;
        int left;
        int from;

        Owned(int slot, int left, int from) {
            this.slot = slot;
            this.left = left;
            this.from = from;
        }
    }

    static final class Boat {
        int x;
        int y;
        int mx;
        int my;
        boolean off;
        List<Owned> owned = new ArrayList<>();
        Map<Integer, int[]> map = new HashMap<>(); // slot -> holder, frames
        Map<Integer, int[]> places = new HashMap<>(); // ship -> across, up

        Boat copy() {
            Boat b = new Boat();
            b.x = x;
            b.y = y;
            b.mx = mx;
            b.my = my;
            b.off = off;
            for (Owned o : owned) b.owned.add(new Owned(o.slot, o.left, o.from));
            map.forEach((k, v) -> b.map.put(k, v.clone()));
            places.forEach((k, v) -> b.places.put(k, v.clone()));
            return b;
        }
    }

    static final class Sea {
        List<Boat> boats = new ArrayList<>();
        int clashes;
        int frame;
        int slot;
        int seed;

        Sea copy() {
            Sea s = new Sea();
            for (Boat b : boats) s.boats.add(b.copy());
            s.clashes = clashes;
            s.frame = frame;
            s.slot = slot;
            s.seed = seed;
            return s;
        }
    }

    static final class Seen {
        int frame;
        int ship;
        boolean is;
        int told;
        Integer untold;
    }

    StringBuilder tape = new StringBuilder();
    Told told = new Told();
    int faultKind = 0;
    int faultPlace = -1;
    Sea sea = new Sea();
    List<Sea> undo = new ArrayList<>();
    List<Sea> redo = new ArrayList<>();
    Map<Integer, Sea> boxes = new HashMap<>();
    List<Integer> lying = new ArrayList<>();
    List<Seen> allSeen = new ArrayList<>();
    int time;

    int slots() {
        return told.get("slots");
    }

    int ships() {
        return told.ships.size();
    }

    boolean isShip(int s) {
        return s >= 0 && s < ships();
    }

    boolean isSlot(int s) {
        return s >= 0 && s < slots();
    }

    int feed(int a, int b, int c, int d, int e) {
        if (tape.length() > 1580) return -1;
        for (int v : new int[] {a, b, c, d, e}) {
            tape.append((char) (v >>> 24)).append((char) (v >>> 16 & 255));
            tape.append((char) (v >>> 8 & 255)).append((char) (v & 255));
        }
        return tape.length();
    }

    int end(int n) {
        if (n < 0 || n > tape.length()) return -1;
        tape.setLength(n);
        return n;
    }

    int fleet() {
        String text = tape.toString();
        tape.setLength(0);
        try {
            told = new Parser(text).parse();
        } catch (Fault f) {
            faultKind = f.kind;
            faultPlace = f.place;
            return -1;
        }
        faultKind = 0;
        faultPlace = -1;
        sea = new Sea();
        sea.seed = told.get("draw");
        for (int[] t : told.ships) {
            Boat b = new Boat();
            b.x = t[0];
            b.y = t[1];
            b.mx = t[2];
            b.my = t[3];
            sea.boats.add(b);
        }
        undo.clear();
        redo.clear();
        boxes.clear();
        lying.clear();
        allSeen.clear();
        return ships();
    }

    int fault(int what) {
        return what == 0 ? faultKind : what == 1 ? faultPlace : -1;
    }

    int speed(Boat b) {
        return Math.min(b.mx, 100 - b.mx) + Math.min(b.my, 100 - b.my);
    }

    boolean on(Sea s, int ship) {
        return !s.boats.get(ship).off && s.frame >= told.ships.get(ship)[4];
    }

    int dist(Sea s, int a, int b) {
        Boat p = s.boats.get(a);
        Boat q = s.boats.get(b);
        return Math.abs(p.x - q.x) + Math.abs(p.y - q.y);
    }

    boolean near(Sea s, int a, int b) {
        return dist(s, a, b) <= told.get("range");
    }

    int heard(Boat b) {
        Set<Integer> who = new TreeSet<>();
        b.map.values().forEach(v -> who.add(v[0]));
        return who.size();
    }

    boolean owns(Boat b, int slot) {
        return b.owned.stream().anyMatch(o -> o.slot == slot);
    }

    int ship(int ship, int what) {
        if (!isShip(ship)) return -1;
        Boat b = sea.boats.get(ship);
        int[] all = {b.x, b.y, b.mx, b.my, speed(b), on(sea, ship) ? 1 : 0, b.owned.size(), heard(b)};
        return what < 0 || what >= all.length ? -1 : all[what];
    }

    int own(int ship, int i, int what) {
        if (!isShip(ship) || i < 0 || i >= sea.boats.get(ship).owned.size() || what < 0 || what > 2) return -1;
        Owned o = sea.boats.get(ship).owned.get(i);
        return new int[] {o.slot, o.left, o.from}[what];
    }

    int map(int ship, int slot, int what) {
        if (!isShip(ship) || !isSlot(slot) || what < 0 || what > 1) return -2;
        return sea.boats.get(ship).map.getOrDefault(slot, new int[] {-1, 0})[what];
    }

    int known(int ship, int other, int what) {
        if (!isShip(ship) || !isShip(other) || ship == other || what < 0 || what > 1) return -1;
        return sea.boats.get(ship).places.getOrDefault(other, new int[] {-1, -1})[what];
    }

    int far(int ship, int other) {
        return isShip(ship) && isShip(other) ? dist(sea, ship, other) : -1;
    }

    void act() {
        undo.add(sea.copy());
        if (undo.size() > 40) undo.remove(0);
        redo.clear();
    }

    int step() {
        if (sea.frame > 99) return -1;
        act();
        return go(sea);
    }

    int draw(Sea s) {
        s.seed = (s.seed * 137 + 71) % 1000;
        return s.seed;
    }

    List<Integer> window(int slot, int wide) {
        Set<Integer> seen = new LinkedHashSet<>();
        for (int k = -wide; k <= wide; k++) seen.add(((slot + k) % slots() + slots()) % slots());
        return new ArrayList<>(seen);
    }

    /** Slots held by others in the window, the farthest holder's first. */
    List<Integer> strangersSlots(Sea s, int ship, List<Integer> window) {
        Boat me = s.boats.get(ship);
        List<Integer> held = new ArrayList<>();
        for (int w : window) if (me.map.containsKey(w) && !owns(me, w)) held.add(w);
        held.sort((p, q) -> Integer.compare(lastFar(me, q), lastFar(me, p))); // stable, so the order stays
        return held;
    }

    int lastFar(Boat me, int slot) {
        int[] place = me.places.get(me.map.get(slot)[0]);
        return Math.abs(place[0] - me.x) + Math.abs(place[1] - me.y);
    }

    /** Candidates in the order of the window. */
    List<Integer> candidatesOf(Sea s, int ship, int slot, int wide) {
        Boat me = s.boats.get(ship);
        List<Integer> window = window(slot, wide);
        Set<Integer> set = new TreeSet<>();
        for (int w : window) if (!me.map.containsKey(w) && !owns(me, w)) set.add(w);
        for (int w : strangersSlots(s, ship, window)) if (set.size() < told.get("least")) set.add(w);
        List<Integer> result = new ArrayList<>();
        for (int w : window) if (set.contains(w)) result.add(w);
        return result;
    }

    int often(Sea s, int ship) {
        Boat b = s.boats.get(ship);
        int n;
        if (told.reports == null) {
            n = 1 + speed(b) / 8;
        } else {
            n = told.reports.of(Map.of("speed", speed(b), "heard", heard(b), "number", ship, "frame", s.frame));
        }
        return n < 1 ? 1 : n > 3 ? 3 : n;
    }

    int go(Sea s) {
        int n = slots();
        if (s.slot == 0) {
            if (s.frame != 0) {
                for (Boat b : s.boats) {
                    b.x = (b.x + b.mx) % 100;
                    b.y = (b.y + b.my) % 100;
                    b.map.values().forEach(v -> v[1]--);
                    b.map.values().removeIf(v -> v[1] == 0);
                }
            }
            for (int i = 0; i < ships(); i++) {
                if (!on(s, i) || s.frame == told.ships.get(i)[4]) continue;
                Boat b = s.boats.get(i);
                int r = often(s, i);
                while (b.owned.size() > r) b.owned.remove(b.owned.size() - 1);
                while (b.owned.size() < r) {
                    int first = b.owned.isEmpty() ? draw(s) % n : b.owned.get(0).slot;
                    List<Integer> c = candidatesOf(s, i, (first + b.owned.size() * (n / r)) % n, told.get("wide"));
                    if (c.isEmpty()) break;
                    int slot = c.get(draw(s) % c.size());
                    b.owned.add(new Owned(slot, 1 + draw(s) % told.get("keeps"), s.frame));
                }
            }
        }
        Map<Integer, Owned> reports = new HashMap<>();
        Set<Integer> faded = new TreeSet<>();
        for (int i = 0; i < ships(); i++) {
            if (!on(s, i)) continue;
            for (Owned o : s.boats.get(i).owned) {
                if (o.slot != s.slot || o.from > s.frame) continue;
                o.left--;
                if (o.left == 0) {
                    List<Integer> c = candidatesOf(s, i, s.slot, told.get("wide"));
                    if (!c.isEmpty()) {
                        o.slot = c.get(draw(s) % c.size());
                        o.from = s.frame + 1;
                    }
                    o.left = 1 + draw(s) % told.get("keeps");
                }
                if (draw(s) % 100 < told.get("fades")) faded.add(i);
                reports.put(i, o);
                break;
            }
        }
        for (int i = 0; i < ships(); i++) {
            if (!on(s, i) || reports.containsKey(i)) continue;
            List<Integer> from = new ArrayList<>();
            for (int r : reports.keySet()) if (near(s, i, r)) from.add(r);
            if (from.size() > 1) s.clashes++;
            if (from.size() != 1 || faded.contains(from.get(0))) continue;
            int r = from.get(0);
            Boat b = s.boats.get(i);
            b.map.remove(s.slot);
            b.map.put(reports.get(r).slot, new int[] {r, reports.get(r).left + 1});
            b.places.put(r, new int[] {s.boats.get(r).x, s.boats.get(r).y});
        }
        s.slot++;
        if (s.slot == n) {
            s.slot = 0;
            s.frame++;
        }
        return bits(reports.keySet());
    }

    static int bits(Iterable<Integer> numbers) {
        int bits = 0;
        for (int n : numbers) bits |= 1 << n;
        return bits;
    }

    int steer(int ship, int across, int up) {
        if (!isShip(ship) || across < 0 || across > 99 || up < 0 || up > 99) return -1;
        act();
        sea.boats.get(ship).mx = across;
        sea.boats.get(ship).my = up;
        return speed(sea.boats.get(ship));
    }

    int turn(int ship) {
        if (!isShip(ship)) return -1;
        act();
        Boat b = sea.boats.get(ship);
        b.off = !b.off;
        if (b.off) {
            b.owned.clear();
            b.map.clear();
            b.places.clear();
        }
        return about(7);
    }

    boolean undo() {
        if (undo.isEmpty()) return false;
        redo.add(sea);
        sea = undo.remove(undo.size() - 1);
        return true;
    }

    boolean redo() {
        if (redo.isEmpty()) return false;
        undo.add(sea);
        sea = redo.remove(redo.size() - 1);
        return true;
    }

    int candidates(int ship, int slot) {
        return isShip(ship) && isSlot(slot) ? bits(candidatesOf(sea, ship, slot, told.get("wide"))) : -1;
    }

    int free(int ship) {
        if (!isShip(ship)) return -1;
        Boat b = sea.boats.get(ship);
        int bits = (1 << slots()) - 1;
        for (int held : b.map.keySet()) bits &= ~(1 << held);
        for (Owned o : b.owned) bits &= ~(1 << o.slot);
        return bits;
    }

    int reuse(int ship, int slot) {
        if (!isShip(ship) || !isSlot(slot)) return -1;
        List<Integer> held = strangersSlots(sea, ship, window(slot, told.get("wide")));
        return held.isEmpty() ? -1 : held.get(0);
    }

    int rate(int ship) {
        return isShip(ship) ? often(sea, ship) : -1;
    }

    int next(int ship) {
        if (!isShip(ship)) return -1;
        Sea s = sea.copy();
        for (int n = 1; n <= 90; n++) if ((go(s) & 1 << ship) != 0) return n;
        return -1;
    }

    int will(int ship, int n) {
        if (!isShip(ship) || n < 0 || n > 90) return -1;
        Sea s = sea.copy();
        for (int i = 0; i < n; i++) go(s);
        List<Owned> owned = s.boats.get(ship).owned;
        return owned.isEmpty() ? -1 : owned.get(0).slot;
    }

    int clashes(int n) {
        if (n < 0 || n > 90) return -1;
        Sea s = sea.copy();
        s.clashes = 0;
        for (int i = 0; i < n; i++) go(s);
        return s.clashes;
    }

    int agree(int ship, int other) {
        if (!isShip(ship) || !isShip(other)) return -1;
        int n = 0;
        for (int s = 0; s < slots(); s++) if (map(ship, s, 0) == map(other, s, 0)) n++;
        return n;
    }

    int wrong(int ship) {
        if (!isShip(ship)) return -1;
        Set<Integer> result = new TreeSet<>();
        sea.boats.get(ship).map.forEach((slot, v) -> {
            if (!owns(sea.boats.get(v[0]), slot)) result.add(slot);
        });
        return bits(result);
    }

    int hidden(int ship, int other) {
        if (!isShip(ship) || !isShip(other)) return -1;
        if (ship == other || !on(sea, ship) || !on(sea, other) || near(sea, ship, other)) return 0;
        Set<Integer> third = new TreeSet<>();
        for (int t = 0; t < ships(); t++) {
            if (on(sea, t) && near(sea, t, ship) && near(sea, t, other)) third.add(t);
        }
        return bits(third);
    }

    List<Integer> lights() {
        List<Integer> list = new ArrayList<>();
        for (int i = 0; i < ships(); i++) if (on(sea, i)) list.add(i);
        return list;
    }

    int colours(int what) {
        if (what < 0 || what > 1) return -1;
        List<Integer> on = lights();
        for (int colours = 0; ; colours++) {
            if (canColour(on, new int[on.size()], 0, colours, what == 1)) return colours;
        }
    }

    boolean canColour(List<Integer> on, int[] given, int at, int colours, boolean wider) {
        if (at == on.size()) return true;
        for (int c = 0; c < colours; c++) {
            boolean can = true;
            for (int i = 0; i < at; i++) {
                boolean conflict = near(sea, on.get(i), on.get(at))
                    || wider && hidden(on.get(i), on.get(at)) != 0;
                if (given[i] == c && conflict) can = false;
            }
            given[at] = c;
            if (can && canColour(on, given, at + 1, colours, wider)) return true;
        }
        return false;
    }

    int crowd(int what) {
        if (what < 0 || what > 1) return -1;
        int best = 0;
        for (int set = 63; set >= 0; set--) {
            boolean good = true;
            for (int a = 0; a < 6; a++) {
                for (int b = 0; b < 6; b++) {
                    if ((set >> a & 1) == 0 || (set >> b & 1) == 0) continue;
                    if (a >= ships() || b >= ships() || !on(sea, a) || !on(sea, b) || !near(sea, a, b)) good = false;
                }
            }
            if (good && Integer.bitCount(set) >= Integer.bitCount(best)) best = set;
        }
        return what == 0 ? Integer.bitCount(best) : best;
    }

    int parts() {
        List<Set<Integer>> groups = new ArrayList<>();
        for (int i : lights()) {
            Set<Integer> mine = new TreeSet<>(Set.of(i));
            List<Set<Integer>> others = new ArrayList<>();
            for (Set<Integer> g : groups) {
                if (g.stream().anyMatch(o -> near(sea, o, i))) mine.addAll(g);
                else others.add(g);
            }
            others.add(mine);
            groups = others;
        }
        return groups.size();
    }

    int twins() {
        Set<Integer> result = new TreeSet<>();
        for (int a : lights()) {
            for (int b : lights()) {
                if (a == b || !near(sea, a, b)) continue;
                for (Owned o : sea.boats.get(a).owned) if (owns(sea.boats.get(b), o.slot)) result.add(o.slot);
            }
        }
        return bits(result);
    }

    int meet(int ship, int other, int what) {
        if (!isShip(ship) || !isShip(other) || ship == other || what < 0 || what > 1) return -1;
        Sea s = sea.copy();
        for (int n = 0; n < 100; n++) {
            if (near(s, ship, other) == (what == 0)) return n;
            for (Boat b : s.boats) {
                b.x = (b.x + b.mx) % 100;
                b.y = (b.y + b.my) % 100;
            }
        }
        return -1;
    }

    int lit() {
        return bits(lights());
    }

    int taken() {
        int bits = 0;
        for (int i : lights()) for (Owned o : sea.boats.get(i).owned) bits |= 1 << o.slot;
        return bits;
    }

    int fullest(int what) {
        int[] counts = new int[slots()];
        for (int i : lights()) for (Owned o : sea.boats.get(i).owned) counts[o.slot]++;
        int best = 0;
        for (int s = 1; s < slots(); s++) if (counts[s] > counts[best]) best = s;
        if (counts[best] == 0) return -1;
        return what == 0 ? best : what == 1 ? counts[best] : -1;
    }

    int strangers(int ship) {
        if (!isShip(ship)) return -1;
        Set<Integer> result = new TreeSet<>(lights());
        result.remove(ship);
        result.removeIf(o -> !near(sea, ship, o));
        sea.boats.get(ship).map.values().forEach(v -> result.remove(v[0]));
        return bits(result);
    }

    int best() {
        int best = -1;
        for (int i = 0; i < ships(); i++) {
            if (best < 0 || heard(sea.boats.get(i)) > heard(sea.boats.get(best))) best = i;
        }
        return best;
    }

    int reach(int what) {
        int[] best = {-1, -1, -1};
        for (int a : lights()) {
            for (int b : lights()) {
                if (a < b && near(sea, a, b) && dist(sea, a, b) > best[2]) best = new int[] {a, b, dist(sea, a, b)};
            }
        }
        return what < 0 || what > 2 ? -1 : best[what];
    }

    int law(int ship, int slot, int n) {
        return isShip(ship) && isSlot(slot) && n >= 0 && n <= 9 ? candidatesOf(sea, ship, slot, n).size() : -1;
    }

    int odds(int n, int part) {
        if (n < 0 || n > 4 || part < 0 || part > 1) return -1;
        java.math.BigInteger up = java.math.BigInteger.valueOf(100 - told.get("fades")).pow(n);
        java.math.BigInteger low = java.math.BigInteger.valueOf(100).pow(n);
        java.math.BigInteger common = up.gcd(low);
        return (part == 0 ? up : low).divide(common).intValueExact();
    }

    int near(int ship) {
        lying.clear();
        if (!isShip(ship)) return -1;
        for (int i = 0; i < ships(); i++) if (i != ship) lying.add(i);
        lying.sort((a, b) -> Integer.compare(dist(sea, ship, a), dist(sea, ship, b)));
        return lying.size();
    }

    int lies(int i) {
        return i < 0 || i >= lying.size() ? -2 : lying.get(i);
    }

    int seen(int frame, int ship, boolean is) {
        if (frame < 0 || frame > 40 || !isShip(ship) || ship == ships() - 1 || allSeen.size() == 30) return -1;
        Seen s = new Seen();
        s.frame = frame;
        s.ship = ship;
        s.is = is;
        s.told = time;
        allSeen.add(s);
        return allSeen.size() - 1;
    }

    boolean untell(int seen) {
        if (seen < 0 || seen >= allSeen.size() || allSeen.get(seen).untold != null) return false;
        allSeen.get(seen).untold = time;
        return true;
    }

    int later(int by) {
        if (by < 0 || by > 1000 || time + by > 100000) return -1;
        time += by;
        return time;
    }

    boolean lastIn(int x, int ship, int frame) {
        int[] last = told.ships.get(ships() - 1).clone();
        int[] other = told.ships.get(ship).clone();
        last[0] = x;
        for (int i = 0; i < frame; i++) {
            for (int[] s : List.of(last, other)) {
                s[0] = (s[0] + s[2]) % 100;
                s[1] = (s[1] + s[3]) % 100;
            }
        }
        return Math.abs(last[0] - other[0]) + Math.abs(last[1] - other[1]) <= told.get("range");
    }

    List<Integer> fitting(int k) {
        List<Integer> list = new ArrayList<>();
        for (int x = 0; x < 100 && ships() > 0; x++) {
            boolean fits = true;
            for (Seen s : allSeen) {
                if (s.told <= k && !(s.untold != null && s.untold <= k) && lastIn(x, s.ship, s.frame) != s.is) fits = false;
            }
            if (fits) list.add(x);
        }
        return list;
    }

    int fits(int k) {
        return fitting(k).size();
    }

    int sure(int what, int k) {
        List<Integer> f = fitting(k);
        if (f.isEmpty() || what < 0 || what > 1) return -1;
        return what == 0 ? f.get(0) : f.get(f.size() - 1);
    }

    int ask(int ship, int what, int k) {
        List<Integer> f = fitting(k);
        if (f.isEmpty() || what < 0 || what > 1 || !isShip(ship) || ship == ships() - 1) return -1;
        int bestFrame = -1;
        int bestLeft = 1000;
        for (int frame = 0; frame <= 40; frame++) {
            int in = 0;
            for (int x : f) if (lastIn(x, ship, frame)) in++;
            int most = Math.max(in, f.size() - in);
            if (most < bestLeft) {
                bestLeft = most;
                bestFrame = frame;
            }
        }
        return what == 0 ? bestFrame : bestLeft;
    }

    int image(int box) {
        if (box < 0 || box > 2) return -1;
        boxes.put(box, sea.copy());
        return sea.frame;
    }

    int back(int box) {
        if (!boxes.containsKey(box)) return -1;
        sea = boxes.get(box).copy();
        undo.clear();
        redo.clear();
        return sea.frame;
    }

    int about(int what) {
        int off = 0;
        for (int i = 0; i < ships(); i++) if (sea.boats.get(i).off) off |= 1 << i;
        int[] all = {ships(), slots(), told.get("range"), sea.frame, sea.slot, sea.seed, sea.clashes, off,
            undo.size(), redo.size(), allSeen.size(), time, tape.length(), told.units, lying.size(), told.get("fades")};
        return what < 0 || what >= all.length ? -1 : all[what];
    }
}
