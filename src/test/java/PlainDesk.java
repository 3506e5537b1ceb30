import java.util.ArrayList;
import java.util.List;

/** The document word by word, with no heed to speed: what the program is compared with. */
final class PlainDesk {
    private static final int NONE = LostDesk.NONE;

    private static final class Find {
        int kind, colour, marks, place, tick, state, loss = NONE, bag;
    }

    private static final class Loss {
        int kind, colour, marks, place, from, to;
        boolean handed;
        final int[] asked = new int[24];
        final boolean[] right = new boolean[24];
    }

    private final List<Integer> above = new ArrayList<>();
    private final List<Integer> days = new ArrayList<>();
    private final boolean[][] isNear = new boolean[12][12];
    private final int[][] ways = new int[20][20];
    private int places = 0;
    private final List<Find> finds = new ArrayList<>();
    private final List<Loss> losses = new ArrayList<>();
    private int gap = 20;
    private int now = 0;
    private int[] out = {};
    private int status = 0;
    private int[] best = null;
    private int bestCost = 0;

    int status() {
        return status;
    }

    private int end(int why, int answer) {
        status = why;
        return why == 0 ? answer : NONE;
    }

    private boolean end(int why) {
        status = why;
        return why == 0;
    }

    private boolean noKind(int kind) {
        return kind < 0 || kind >= above.size();
    }

    private boolean noPlace(int place) {
        return place < 0 || place >= places;
    }

    private boolean noFind(int find) {
        return find < 0 || find >= finds.size();
    }

    private boolean noLoss(int loss) {
        return loss < 0 || loss >= losses.size();
    }

    private static boolean notIn(int number, int least, int most) {
        return number < least || number > most;
    }

    private List<Integer> line(int kind) {
        List<Integer> line = new ArrayList<>();
        for (int at = kind; at != NONE; at = above.get(at)) line.add(at);
        return line;
    }

    int kind(int up) {
        if (above.isEmpty() ? up != NONE : noKind(up)) return end(1, 0);
        if (above.size() == 40) return end(3, 0);
        above.add(up);
        days.add(NONE);
        return end(0, above.size() - 1);
    }

    boolean near(int a, int b, boolean is) {
        if (notIn(a, 0, 11) || notIn(b, 0, 11) || a == b) return end(2);
        if (isNear[a][b] == is) return end(4);
        isNear[a][b] = is;
        isNear[b][a] = is;
        best = null;
        return end(0);
    }

    int place() {
        if (places == 20) return end(3, 0);
        return end(0, places++);
    }

    boolean way(int a, int b, int ticks) {
        if (noPlace(a) || noPlace(b) || a == b) return end(1);
        if (ticks != NONE && notIn(ticks, 1, 1000)) return end(2);
        if (ticks == NONE && ways[a][b] == 0) return end(7);
        ways[a][b] = ticks == NONE ? 0 : ticks;
        ways[b][a] = ways[a][b];
        best = null;
        return end(0);
    }

    private int ticksBetween(int a, int b) {
        int[] far = new int[places];
        for (int place = 0; place < places; place++) far[place] = place == a ? 0 : 1_000_000;
        for (int round = 0; round < places; round++) {
            for (int from = 0; from < places; from++) {
                for (int to = 0; to < places; to++) {
                    if (ways[from][to] > 0) far[to] = Math.min(far[to], far[from] + ways[from][to]);
                }
            }
        }
        return far[b] >= 1_000_000 ? NONE : far[b];
    }

    int far(int a, int b) {
        if (noPlace(a) || noPlace(b)) return end(1, 0);
        int ticks = ticksBetween(a, b);
        return ticks == NONE ? end(7, 0) : end(0, ticks);
    }

    int found(int kind, int colour, int marks, int place, int tick) {
        if (noKind(kind) || noPlace(place)) return end(1, 0);
        if (notIn(colour, -1, 11) || notIn(marks, 0, 65535) || notIn(tick, 0, 100000)) return end(2, 0);
        if (finds.size() == 24) return end(3, 0);
        Find find = new Find();
        find.kind = kind;
        find.colour = colour;
        find.marks = marks;
        find.place = place;
        find.tick = tick;
        find.bag = finds.size();
        finds.add(find);
        best = null;
        return end(0, finds.size() - 1);
    }

    int lost(int kind, int colour, int marks, int place, int from, int to) {
        if (noKind(kind) || noPlace(place)) return end(1, 0);
        if (notIn(colour, -1, 11) || notIn(marks, 0, 65535)) return end(2, 0);
        if (notIn(from, 0, 100000) || notIn(to, 0, 100000) || from > to) return end(2, 0);
        if (losses.size() == 24) return end(3, 0);
        Loss loss = new Loss();
        loss.kind = kind;
        loss.colour = colour;
        loss.marks = marks;
        loss.place = place;
        loss.from = from;
        loss.to = to;
        losses.add(loss);
        best = null;
        return end(0, losses.size() - 1);
    }

    int told(int number, int what) {
        if (noFind(number)) return end(1, 0);
        if (notIn(what, 0, 6)) return end(2, 0);
        Find find = finds.get(number);
        int[] all = {find.kind, find.colour, find.place, find.tick, find.state, find.loss, find.bag};
        return end(0, all[what]);
    }

    private int price(Loss loss, Find find) {
        int up = line(loss.kind).indexOf(find.kind);
        int down = line(find.kind).indexOf(loss.kind);
        if (up < 0 && down < 0) return NONE;
        int cost = 2 * Math.max(up, down);
        if (loss.colour != find.colour) {
            if (loss.colour == NONE || find.colour == NONE) cost += 2;
            else if (isNear[loss.colour][find.colour]) cost += 1;
            else return NONE;
        }
        int ticks = ticksBetween(find.place, loss.place);
        if (ticks == NONE || find.tick < loss.from || ticks > find.tick - loss.from) return NONE;
        for (int mark = 0; mark < 16; mark++) {
            if ((loss.marks >> mark & 1) == 1 && (find.marks >> mark & 1) == 0) cost += 3;
        }
        int behind = find.tick - (loss.to + ticks);
        return behind > 0 ? cost + behind / 10 : cost;
    }

    int cost(int loss, int find) {
        if (noLoss(loss) || noFind(find)) return end(1, 0);
        int price = price(losses.get(loss), finds.get(find));
        return price == NONE ? end(6, 0) : end(0, price);
    }

    boolean gap(int cost) {
        if (notIn(cost, 0, 100)) return end(2);
        gap = cost;
        best = null;
        return end(0);
    }

    /** Prices of the LOSSES that are not HANDED, with all FINDS. */
    private int[][] prices() {
        List<int[]> rows = new ArrayList<>();
        for (Loss loss : losses) {
            if (loss.handed) continue;
            int[] row = new int[finds.size()];
            for (int find = 0; find < row.length; find++) {
                row[find] = finds.get(find).state == 0 ? price(loss, finds.get(find)) : NONE;
            }
            rows.add(row);
        }
        return rows.toArray(new int[0][]);
    }

    private int rowOf(int loss) {
        int row = 0;
        for (int other = 0; other < loss; other++) {
            if (!losses.get(other).handed) row++;
        }
        return row;
    }

    private void findBest() {
        if (best != null) return;
        int[][] prices = prices();
        best = PlainMatching.first(prices, gap);
        bestCost = PlainMatching.leastCost(prices, gap);
    }

    int match() {
        findBest();
        return end(0, bestCost);
    }

    int matched(int loss) {
        if (noLoss(loss)) return end(1, 0);
        if (losses.get(loss).handed) return end(5, 0);
        findBest();
        int find = best[rowOf(loss)];
        return find == NONE ? end(7, 0) : end(0, find);
    }

    int sure(int loss, int s) {
        if (noLoss(loss)) return end(1, 0);
        if (notIn(s, 0, 1000)) return end(2, 0);
        if (losses.get(loss).handed) return end(5, 0);
        findBest();
        int row = rowOf(loss);
        if (best[row] == NONE) return end(7, 0);
        int[][] prices = prices();
        prices[row][best[row]] = NONE;
        return end(0, PlainMatching.leastCost(prices, gap) > bestCost + s ? 1 : 0);
    }

    private int alikeOn(Find find, int marks) {
        int count = 0;
        for (Find other : finds) {
            boolean inLine = line(find.kind).contains(other.kind) || line(other.kind).contains(find.kind);
            if (other.state == 0 && inLine && (other.marks & marks) == (find.marks & marks)) count++;
        }
        return count;
    }

    int alike(int find, int marks) {
        if (noFind(find)) return end(1, 0);
        if (notIn(marks, 0, 65535)) return end(2, 0);
        if (finds.get(find).state != 0) return end(5, 0);
        return end(0, alikeOn(finds.get(find), marks));
    }

    int questions(int number, int k) {
        if (noFind(number)) return end(1, 0);
        if (notIn(k, 1, 24)) return end(2, 0);
        Find find = finds.get(number);
        if (find.state != 0) return end(5, 0);
        int fewest = NONE;
        List<Integer> others = new ArrayList<>();
        for (Find other : finds) {
            boolean inLine = line(find.kind).contains(other.kind) || line(other.kind).contains(find.kind);
            if (other.state == 0 && inLine) others.add(other.marks);
        }
        for (int marks = 0; marks <= 65535; marks++) {
            if (fewest != NONE && Integer.bitCount(marks) >= Integer.bitCount(fewest)) continue;
            int count = 0;
            for (int other : others) {
                if ((other & marks) == (find.marks & marks)) count++;
            }
            if (count <= k) fewest = marks;
        }
        return fewest == NONE ? end(7, 0) : end(0, fewest);
    }

    int claim(int by, int on, int asked, int answered) {
        if (noLoss(by) || noFind(on)) return end(1, 0);
        if (notIn(asked, 1, 65535) || (asked | answered) != asked) return end(2, 0);
        Loss loss = losses.get(by);
        Find find = finds.get(on);
        if (loss.asked[on] != 0) return end(4, 0);
        if (loss.handed || find.state != 0) return end(5, 0);
        if (price(loss, find) == NONE) return end(6, 0);
        loss.asked[on] = asked;
        loss.right[on] = (asked & find.marks) == answered;
        return end(0, loss.right[on] ? 1 : 0);
    }

    boolean hand(int to, int what) {
        if (noLoss(to) || noFind(what)) return end(1);
        Loss loss = losses.get(to);
        if (loss.handed || finds.get(what).state != 0) return end(5);
        if (!loss.right[what]) return end(7);
        for (Loss other : losses) {
            boolean asMany = Integer.bitCount(other.asked[what]) >= Integer.bitCount(loss.asked[what]);
            if (other != loss && !other.handed && other.right[what] && asMany) return end(8);
        }
        for (Find find : finds) {
            if (find.bag != finds.get(what).bag) continue;
            find.state = 1;
            find.loss = to;
        }
        loss.handed = true;
        best = null;
        return end(0);
    }

    boolean bag(int a, int b) {
        if (noFind(a) || noFind(b)) return end(1);
        int first = finds.get(a).bag;
        int second = finds.get(b).bag;
        if (first == second) return end(4);
        if (finds.get(a).state != 0 || finds.get(b).state != 0) return end(5);
        for (Find find : finds) {
            if (find.bag == first || find.bag == second) find.bag = Math.min(first, second);
        }
        return end(0);
    }

    boolean keeping(int kind, int count) {
        if (noKind(kind)) return end(1);
        if (count != NONE && notIn(count, 1, 1000)) return end(2);
        days.set(kind, count);
        return end(0);
    }

    private int dueOf(int bag) {
        int due = 0;
        for (Find find : finds) {
            if (find.bag != bag) continue;
            int kept = 30;
            for (int kind : line(find.kind)) {
                if (days.get(kind) != NONE) {
                    kept = days.get(kind);
                    break;
                }
            }
            due = Math.max(due, find.tick + 24 * kept);
        }
        return due;
    }

    int due(int find) {
        return noFind(find) ? end(1, 0) : end(0, dueOf(finds.get(find).bag));
    }

    int tick(int tick) {
        if (notIn(tick, 0, 200000) || tick < now) return end(2, 0);
        now = tick;
        int gone = 0;
        for (Find find : finds) {
            if (find.state == 0 && dueOf(find.bag) < now) {
                find.state = 2;
                gone++;
            }
        }
        best = null;
        return end(0, gone);
    }

    int reward(int find, int pennies, int first, int second) {
        if (noFind(find)) return end(1, 0);
        if (notIn(pennies, 0, 1000000)) return end(2, 0);
        long both = (second & 0xffffffffL) << 32 | first & 0xffffffffL;
        List<Integer> shares = new ArrayList<>();
        for (long rest = both; rest != 0; rest >>>= 8) shares.add((int) (rest & 255));
        int sum = 0;
        for (int share : shares) {
            if (notIn(share, 1, 100)) return end(2, 0);
            sum += share;
        }
        if (sum == 0) return end(2, 0);
        out = new int[shares.size()];
        int left = pennies;
        for (int k = 0; k < out.length; k++) {
            out[k] = (int) ((long) pennies * shares.get(k) / sum);
            left -= out[k];
        }
        for (int k = 0; left > 0; k++, left--) out[k]++;
        return end(0, out.length);
    }

    int out(int k) {
        return k < 0 || k >= out.length ? NONE : out[k];
    }
}
