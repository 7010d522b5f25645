import java.util.ArrayList;
import java.util.Comparator;
import java.util.List;
import java.util.TreeMap;
import java.util.function.ToIntFunction;

/** The document once more, written in another way and without thrift, to compare random runs with. */
final class PlainPlane {
    private static final int NONE = -1, UNKNOWN = -101, OUTSIDE = -102, STATE = -103, FULL = -104;

    private static final class Person implements Cloneable {
        int number, kind, with, row, side, depth, bags, worth;
        // of boarding
        int cell = NONE, busy, sat, waits;
        List<Integer> bins = new ArrayList<>();
        // of leaving
        int out;

        Person fresh(int turnedFrom, int mostBags) {
            try {
                Person p = (Person) clone();
                p.row = turnedFrom < 0 ? row : turnedFrom - row;
                p.bags = Math.min(bags, mostBags);
                p.cell = NONE;
                p.busy = p.sat = p.waits = p.out = 0;
                p.bins = new ArrayList<>();
                return p;
            } catch (CloneNotSupportedException e) {
                throw new IllegalStateException(e);
            }
        }
    }

    /** What a boarding came to. */
    private static final class Result {
        int seconds, below, waits;
        final List<int[]> aisles = new ArrayList<>();
        final TreeMap<Integer, Person> people = new TreeMap<>();
    }

    private int rows, wide, room, cabins, bestDone;
    private List<Person> people = new ArrayList<>();
    private final List<String> calls = new ArrayList<>();
    private String page = "";
    private List<int[]> image;

    long answer(String call, long[] a) {
        int[] v = new int[7];
        for (int i = 0; i < a.length; i++) {
            v[i] = (int) a[i];
        }
        switch (call) {
            case "cabin": return cabin(v[0], v[1], v[2]);
            case "person": return person(v);
            case "as": return as(v[0], v[1]);
            case "about": return about(v[0], v[1]);
            case "change": return change(v[0], v[1], v[2]);
            case "letters": return letters(a[0]);
            case "blank": return blank();
            case "fault": return fault();
            case "call": return call();
            case "order": return order(v[0], v[1]);
            case "board": return board(v[0], v[1]);
            case "sits": return sits(v[0], v[1], v[2]);
            case "stands": return stands(v[0], v[1], v[2]);
            case "least": return least();
            case "bestOrder": return bestOrder(v[0]);
            case "swap": return swap(v[0]);
            case "later": return later(v[0], v[1]);
            case "bound": return bound(v[0], v[1]);
            case "doors": return doors(v[0]);
            case "mixed": return mixed(v[0], v[1], v[2]);
            case "out": return out(v[0]);
            case "outOf": return outOf(v[0], v[1]);
            case "missed": return missed(v[0]);
            case "stay": return stay(v[0], v[1], v[2]);
            case "image": return image();
            case "restore": return restore();
            case "count": return count(v[0]);
            case "digest": return digest();
            default: throw new IllegalArgumentException(call);
        }
    }

    private static boolean in(int v, int least, int most) {
        return least <= v && v <= most;
    }

    private boolean known(int person) {
        return in(person, 0, people.size() - 1);
    }

    private int cabin(int r, int w, int m) {
        if (!(in(r, 2, 12) && in(w, 1, 3) && in(m, 0, 6))) return OUTSIDE;
        rows = r;
        wide = w;
        room = m;
        cabins++;
        people = new ArrayList<>();
        image = null;
        return rows * wide * 2;
    }

    private int person(int[] v) {
        if (rows == 0) return STATE;
        if (!in(v[0], 0, 3)) return OUTSIDE;
        if (v[0] == 3 && !known(v[1])) return UNKNOWN;
        if (v[0] != 3 && v[1] != NONE) return UNKNOWN;
        if (!in(v[2], 0, rows - 1) || !in(v[3], 0, 1) || !in(v[4], 0, wide - 1)) return OUTSIDE;
        if (!in(v[5], 0, 3) || !in(v[6], 0, 999)) return OUTSIDE;
        if (people.stream().anyMatch(p -> p.row == v[2] && p.side == v[3] && p.depth == v[4])) return STATE;
        if (people.size() == 12) return FULL;
        Person p = new Person();
        p.number = people.size();
        p.kind = v[0];
        p.with = v[1];
        p.row = v[2];
        p.side = v[3];
        p.depth = v[4];
        p.bags = v[5];
        p.worth = v[6];
        people.add(p);
        return p.number;
    }

    private int as(int person, int kind) {
        if (!known(person)) return UNKNOWN;
        if (!in(kind, 0, 3)) return OUTSIDE;
        String may = new String[] {"0", "01", "02", "023"}[people.get(person).kind];
        return may.contains("" + kind) ? person : NONE;
    }

    private int about(int person, int what) {
        if (!known(person)) return UNKNOWN;
        if (!in(what, 0, 6)) return OUTSIDE;
        Person p = people.get(person);
        return new int[] {p.kind, p.with, p.row, p.side, p.depth, p.bags, p.worth}[what];
    }

    private int change(int person, int what, int v) {
        int was = about(person, what);
        if (was == UNKNOWN) return UNKNOWN;
        if (what == 5 && in(v, 0, 3)) {
            people.get(person).bags = v;
            return was;
        }
        if (what == 6 && in(v, 0, 999)) {
            people.get(person).worth = v;
            return was;
        }
        return OUTSIDE;
    }

    private int letters(long w) {
        StringBuilder more = new StringBuilder();
        for (long rest = w; rest != 0; rest >>>= 8) {
            long code = rest % 256 < 0 ? rest % 256 + 256 : rest % 256;
            if (code == 0 || code > 126) return OUTSIDE;
            more.append((char) code);
        }
        if (page.length() + more.length() > 16) return FULL;
        page += more;
        return page.length();
    }

    private int blank() {
        int had = page.length();
        page = "";
        return had;
    }

    private static boolean isCall(String text) {
        String key = "([bf][1-9]|[wasog])";
        return text.matches(key + "(," + key + "){0,3}");
    }

    /** Is there a call that begins with this? Tried by what may be missing at its end. */
    private static boolean begins(String text) {
        return text.isEmpty() || isCall(text) || isCall(text + "1") || isCall(text + "w");
    }

    private int fault() {
        for (int i = 0; i < page.length(); i++) {
            if (!begins(page.substring(0, i + 1))) return i;
        }
        return page.length();
    }

    private int call() {
        if (!isCall(page)) return STATE;
        if (calls.size() == 8) return FULL;
        calls.add(page);
        page = "";
        return calls.size() - 1;
    }

    private List<Integer> orderBy(int call, int mostBags) {
        Comparator<Person> by = Comparator.comparingInt(p -> p.kind == 2 ? -1 : p.kind == 1 ? 1 : 0);
        for (String key : calls.get(call).split(",")) {
            int n = key.length() == 2 ? key.charAt(1) - '0' : 0;
            ToIntFunction<Person> value = p -> {
                switch (key.charAt(0)) {
                    case 'b': return Math.floorDiv(rows - 1 - p.row, n);
                    case 'f': return Math.floorDiv(p.row, n);
                    case 'w': return 9 - p.depth;
                    case 'a': return p.depth;
                    case 's': return p.row % 2 == 0 ? 0 : 1;
                    case 'o': return p.side;
                    default: return Math.min(mostBags, p.bags);
                }
            };
            by = by.thenComparingInt(value);
        }
        List<Person> sorted = new ArrayList<>(people);
        sorted.sort(by.thenComparingInt(p -> p.number));
        List<Integer> order = new ArrayList<>();
        sorted.forEach(p -> order.add(p.number));
        for (Person p : people) {
            if (p.kind == 3) {
                order.remove((Integer) p.number);
                order.add(order.indexOf(p.with) + 1, p.number);
            }
        }
        return order;
    }

    private Result boarding(List<Integer> order, int mostBags) {
        List<Person> coming = new ArrayList<>();
        order.forEach(i -> coming.add(people.get(i).fresh(-1, mostBags)));
        return boardingOf(coming, rows);
    }

    /** Looks for who stands in a cell among all, instead of keeping the aisle. */
    private Result boardingOf(List<Person> coming, int ofRows) {
        Result result = new Result();
        int[] full = new int[ofRows];
        coming.forEach(p -> result.people.put(p.number, p));
        int came = 0;
        for (int second = 1; coming.stream().anyMatch(p -> p.sat == 0); second++) {
            for (int cell = ofRows - 1; cell >= 0; cell--) {
                Person p = at(coming, cell);
                if (p == null) continue;
                if (p.busy == 0 && p.row != cell) {
                    if (at(coming, cell + 1) == null) {
                        p.cell++;
                    } else {
                        p.waits++;
                    }
                    continue;
                }
                if (p.busy > 0) {
                    p.busy--;
                } else {
                    p.busy = busyFor(p, coming, full);
                }
                if (p.busy == 0) {
                    p.sat = second;
                    p.cell = NONE;
                    result.seconds = second;
                }
            }
            if (came < coming.size() && at(coming, 0) == null) {
                coming.get(came).cell = 0;
                came++;
            }
            int[] aisle = new int[ofRows];
            for (int cell = 0; cell < ofRows; cell++) {
                aisle[cell] = at(coming, cell) == null ? NONE : at(coming, cell).number;
            }
            result.aisles.add(aisle);
        }
        for (Person p : coming) {
            result.waits += p.waits;
            result.below += (int) p.bins.stream().filter(b -> b == NONE).count();
        }
        return result;
    }

    private static Person at(List<Person> list, int cell) {
        return list.stream().filter(p -> p.cell == cell).findAny().orElse(null);
    }

    private int busyFor(Person p, List<Person> all, int[] full) {
        int time = 0;
        for (Person q : all) {
            if (q.sat > 0 && q.row == p.row && q.side == p.side && q.depth < p.depth) time += 3;
        }
        for (int bag = 0; bag < p.bags; bag++) {
            int bin = NONE;
            for (int r = 0; r < full.length; r++) {
                if (full[r] < room && (bin == NONE || Math.abs(r - p.row) < Math.abs(bin - p.row))) bin = r;
            }
            p.bins.add(bin);
            if (bin == NONE) {
                time += 5;
            } else {
                full[bin]++;
                time += 4 + 2 * Math.abs(bin - p.row);
            }
        }
        return time;
    }

    private int refusal(int call) {
        return !in(call, 0, calls.size() - 1) ? UNKNOWN : rows == 0 ? STATE : 0;
    }

    private int order(int call, int i) {
        if (refusal(call) != 0) return refusal(call);
        if (!in(i, 0, 11)) return OUTSIDE;
        List<Integer> order = orderBy(call, 3);
        return i < order.size() ? order.get(i) : NONE;
    }

    private int board(int call, int what) {
        if (refusal(call) != 0) return refusal(call);
        if (!in(what, 0, 2)) return OUTSIDE;
        Result r = boarding(orderBy(call, 3), 3);
        return what == 0 ? r.seconds : what == 1 ? r.below : r.waits;
    }

    private int sits(int call, int person, int what) {
        if (!in(call, 0, calls.size() - 1) || !known(person)) return UNKNOWN;
        if (!in(what, 0, 4)) return OUTSIDE;
        Person p = boarding(orderBy(call, 3), 3).people.get(person);
        if (what == 0) return p.sat;
        if (what == 1) return p.waits;
        return what - 2 < p.bins.size() ? p.bins.get(what - 2) : NONE;
    }

    private int stands(int call, int second, int cell) {
        if (refusal(call) != 0) return refusal(call);
        if (!in(second, 1, 999) || !in(cell, 0, rows - 1)) return OUTSIDE;
        Result r = boarding(orderBy(call, 3), 3);
        return second <= r.aisles.size() ? r.aisles.get(second - 1)[cell] : NONE;
    }

    private int least() {
        if (rows == 0) return STATE;
        int found = NONE;
        for (int i = calls.size() - 1; i >= 0; i--) {
            if (found == NONE || board(i, 0) <= board(found, 0)) found = i;
        }
        return found;
    }

    private int bestOrder(int what) {
        if (rows == 0) return STATE;
        if (!in(what, 0, 6)) return OUTSIDE;
        if (people.size() > 6 || bestDone == 20) return STATE;
        bestDone++;
        List<List<Integer>> all = new ArrayList<>();
        orders(new ArrayList<>(), all);
        List<Integer> best = null;
        int seconds = 0;
        for (List<Integer> order : all) {
            int now = boarding(order, 3).seconds;
            if (best == null || now < seconds) {
                best = order;
                seconds = now;
            }
        }
        return what == 0 ? seconds : what <= best.size() ? best.get(what - 1) : NONE;
    }

    private void orders(List<Integer> begun, List<List<Integer>> all) {
        if (begun.size() == people.size()) {
            all.add(new ArrayList<>(begun));
            return;
        }
        for (int i = 0; i < people.size(); i++) {
            if (!begun.contains(i)) {
                begun.add(i);
                orders(begun, all);
                begun.remove(begun.size() - 1);
            }
        }
    }

    private int swap(int call) {
        if (refusal(call) != 0) return refusal(call);
        List<Integer> order = orderBy(call, 3);
        TreeMap<Integer, Integer> firstBySeconds = new TreeMap<>();
        for (int i = 0; i < order.size(); i++) {
            for (int j = i + 1; j < order.size(); j++) {
                List<Integer> changed = new ArrayList<>(order);
                changed.set(i, order.get(j));
                changed.set(j, order.get(i));
                firstBySeconds.putIfAbsent(boarding(changed, 3).seconds, 16 * i + j);
            }
        }
        boolean none = firstBySeconds.isEmpty() || firstBySeconds.firstKey() >= board(call, 0);
        return none ? NONE : firstBySeconds.firstEntry().getValue();
    }

    private int later(int call, int person) {
        if (!in(call, 0, calls.size() - 1) || !known(person)) return UNKNOWN;
        List<Integer> order = orderBy(call, 3);
        order.remove((Integer) person);
        order.add(person);
        return boarding(order, 3).seconds;
    }

    private int bound(int call, int bags) {
        if (refusal(call) != 0) return refusal(call);
        if (!in(bags, 0, 3)) return OUTSIDE;
        return boarding(orderBy(call, bags), bags).seconds;
    }

    private int doors(int call) {
        if (refusal(call) != 0) return refusal(call);
        int half = rows / 2 + rows % 2;
        List<Person> front = new ArrayList<>();
        List<Person> back = new ArrayList<>();
        for (int i : orderBy(call, 3)) {
            Person p = people.get(i);
            if (p.row < half) {
                front.add(p.fresh(-1, 3));
            } else {
                back.add(p.fresh(rows - 1, 3));
            }
        }
        return Math.max(boardingOf(front, half).seconds, boardingOf(back, rows - half).seconds);
    }

    private int mixed(int n, int seed, int what) {
        if (rows == 0) return STATE;
        if (!in(n, 1, 9) || seed < 0 || !in(what, 0, 2)) return OUTSIDE;
        long now = seed;
        List<Integer> took = new ArrayList<>();
        for (int i = 0; i < n; i++) {
            List<Integer> order = new ArrayList<>();
            people.forEach(p -> order.add(p.number));
            for (int k = people.size(); k >= 2; k--) {
                now = Math.floorMod(1103515245L * now + 12345L, 1L << 31);
                java.util.Collections.swap(order, k - 1, (int) ((now >> 16) % k));
            }
            took.add(boarding(order, 3).seconds);
        }
        if (what == 2) return (int) now;
        return what == 0 ? java.util.Collections.min(took) : java.util.Collections.max(took);
    }

    private List<Person> leave(int manner) {
        List<Person> all = new ArrayList<>();
        people.forEach(p -> all.add(p.fresh(-1, 3)));
        List<Person> sitting = new ArrayList<>(all);
        for (int second = 1; all.stream().anyMatch(p -> p.out == 0); second++) {
            for (int cell = 0; cell < rows; cell++) {
                Person p = at(all, cell);
                if (p == null) continue;
                if (p.busy > 0) {
                    p.busy--;
                } else if (cell == 0) {
                    p.out = second;
                    p.cell = NONE;
                } else if (at(all, cell - 1) == null) {
                    p.cell--;
                }
            }
            ToIntFunction<Person> turn = p -> manner == 0 ? 0 : manner == 1 ? p.depth : p.row;
            int least = sitting.stream().mapToInt(turn).min().orElse(0);
            for (int cell = 0; cell < rows; cell++) {
                int row = cell;
                if (at(all, cell) != null) continue;
                sitting.stream().filter(p -> p.row == row && turn.applyAsInt(p) == least)
                    .min(Comparator.comparingInt(p -> 2 * p.depth + p.side)).ifPresent(p -> {
                        p.cell = row;
                        p.busy = 2 * p.bags;
                        sitting.remove(p);
                    });
            }
        }
        return all;
    }

    private int out(int manner) {
        if (rows == 0) return STATE;
        if (!in(manner, 0, 2)) return OUTSIDE;
        return leave(manner).stream().mapToInt(p -> p.out).max().orElse(0);
    }

    private int outOf(int person, int manner) {
        if (!known(person)) return UNKNOWN;
        return in(manner, 0, 2) ? leave(manner).get(person).out : OUTSIDE;
    }

    private int missed(int manner) {
        if (rows == 0) return STATE;
        if (!in(manner, 0, 2)) return OUTSIDE;
        return leave(manner).stream().filter(p -> p.out > p.worth).mapToInt(p -> 1 << p.number).sum();
    }

    private int stay(int n, int step, int what) {
        if (!in(n, 1, 12) || !in(step, 1, 99) || !in(what, 0, 1)) return OUTSIDE;
        if (people.size() < n) return NONE;
        int worth = people.stream().mapToInt(p -> p.worth).sorted().toArray()[n - 1];
        int price = (worth + step - 1) / step * step;
        return what == 0 ? price : price * n;
    }

    private int image() {
        if (rows == 0) return STATE;
        image = new ArrayList<>();
        people.forEach(p -> image.add(new int[] {p.bags, p.worth}));
        return people.size();
    }

    private int restore() {
        if (image == null) return STATE;
        people = new ArrayList<>(people.subList(0, image.size()));
        for (int i = 0; i < image.size(); i++) {
            people.get(i).bags = image.get(i)[0];
            people.get(i).worth = image.get(i)[1];
        }
        return people.size();
    }

    private int count(int what) {
        if (!in(what, 0, 8)) return OUTSIDE;
        int bags = people.stream().mapToInt(p -> p.bags).sum();
        return new int[] {rows, rows * wide * 2, room, people.size(), calls.size(), page.length(), cabins, bestDone,
            bags}[what];
    }

    private long digest() {
        List<Long> numbers = new ArrayList<>();
        for (int i = 0; i < people.size(); i++) {
            for (int what = 0; what <= 6; what++) numbers.add((long) about(i, what));
        }
        if (rows > 0) {
            for (int call = 0; call < calls.size(); call++) {
                for (int i : orderBy(call, 3)) numbers.add((long) i);
                for (int what = 0; what <= 2; what++) numbers.add((long) board(call, what));
                numbers.add((long) doors(call));
            }
            for (int manner = 0; manner <= 2; manner++) numbers.add((long) out(manner));
            numbers.add((long) least());
            for (int what = 0; what <= 2; what++) numbers.add((long) mixed(2, 5, what));
        }
        page.chars().forEach(c -> numbers.add((long) c));
        for (int what = 0; what <= 8; what++) numbers.add((long) count(what));
        long h = 523;
        for (long number : numbers) h = 31 * h + number;
        return h;
    }
}
