import java.util.ArrayList;
import java.util.List;

/**
 * The document once more, with lists and day by day, to compare random runs with.
 * What would be is found by doing it to a copy.
 */
final class PlainMoulds {
    private final List<int[]> bowls = new ArrayList<>();  // as told() tells, without the temper
    private final List<int[]> slabs = new ArrayList<>();  // columns, rows, temper, bloom, age
    private final List<int[]> boxes = new ArrayList<>();  // as order() tells
    private int day = 0;

    PlainMoulds copy() {
        PlainMoulds copy = new PlainMoulds();
        bowls.forEach(bowl -> copy.bowls.add(bowl.clone()));
        slabs.forEach(slab -> copy.slabs.add(slab.clone()));
        boxes.forEach(box -> copy.boxes.add(box.clone()));
        copy.day = day;
        return copy;
    }

    int bowl(int grams) {
        argument(grams >= 0 && grams <= 2000);
        state(bowls.size() < 5);
        bowls.add(new int[] {grams, 0, 0, 0, 0, 0, 20});
        return bowls.size() - 1;
    }

    int warm(int bowl, int warmth, int turns) {
        index(bowl, bowls.size());
        argument(warmth >= 15 && warmth <= 50 && turns >= 1 && turns <= 40);
        int[] b = bowls.get(bowl);
        b[6] = warmth;
        for (int turn = 1; turn <= turns; turn++) {
            turn(b);
        }
        return temper(b);
    }

    private static void turn(int[] b) {
        int warmth = b[6];
        int[] melting = {0, 19, 23, 27, 31, 35};
        for (int k = 1; k <= 5; k++) {
            if (warmth >= melting[k]) {
                b[k] = b[k] / 2;
            }
        }
        if (warmth >= 34) {
            return;
        }
        int grows = warmth < 16 ? 1 : warmth < 20 ? 2 : warmth < 24 ? 3 : warmth < 28 ? 4 : 5;
        int room = 100 - (b[1] + b[2] + b[3] + b[4] + b[5]);
        int more = 8 + b[grows] / 4;
        b[grows] += more > room ? room : more;
    }

    private static int temper(int[] b) {
        int temper = b[5] * 2 + b[4] - (b[1] + b[2] + b[3]);
        return temper < 0 ? 0 : temper > 100 ? 100 : temper;
    }

    int seed(int bowl, int many) {
        index(bowl, bowls.size());
        argument(many >= 1 && many <= 30);
        int[] b = bowls.get(bowl);
        for (int i = 0; i < many && b[1] + b[2] + b[3] + b[4] + b[5] < 100; i++) {
            b[5]++;
        }
        return b[5];
    }

    int pour(int from, int into) {
        index(from, bowls.size());
        index(into, bowls.size());
        int[] a = bowls.get(from);
        int[] b = bowls.get(into);
        argument(from != into && a[0] + b[0] != 0 && a[0] + b[0] <= 2000);
        for (int k = 1; k <= 6; k++) {
            b[k] = (b[k] * b[0] + a[k] * a[0]) / (a[0] + b[0]);
        }
        b[0] += a[0];
        bowls.set(from, new int[] {0, 0, 0, 0, 0, 0, a[6]});
        return b[0];
    }

    int cast(int bowl, int w, int h) {
        index(bowl, bowls.size());
        argument(w >= 1 && w <= 6 && h >= 1 && h <= 6);
        int[] b = bowls.get(bowl);
        state(slabs.size() < 8 && b[0] >= 10 * w * h);
        b[0] -= 10 * w * h;
        slabs.add(new int[] {w, h, temper(b), 0, 0});
        return slabs.size() - 1;
    }

    int polish(int slab) {
        index(slab, slabs.size());
        int[] s = slabs.get(slab);
        s[3] = s[3] < 15 ? 0 : s[3] - 15;
        return s[3];
    }

    int split(int slab, int at, boolean rows) {
        index(slab, slabs.size());
        int[] s = slabs.get(slab);
        int side = rows ? 1 : 0;
        index(at - 1, s[side] - 1);
        state(slabs.size() < 8);
        int[] other = s.clone();
        other[side] = s[side] - at;
        s[side] = at;
        slabs.add(other);
        return slabs.size() - 1;
    }

    int melt(int slab, int bowl) {
        index(slab, slabs.size());
        index(bowl, bowls.size());
        int[] s = slabs.get(slab);
        int[] b = bowls.get(bowl);
        argument(b[0] + 10 * s[0] * s[1] <= 2000);
        b[0] += 10 * s[0] * s[1];
        slabs.remove(slab);
        return b[0];
    }

    int box(int squares, int temper) {
        argument(squares >= 1 && squares <= 36 && temper >= 0 && temper <= 100);
        state(boxes.size() < 6);
        boxes.add(new int[] {squares, temper, 0, -1, -1});
        return boxes.size() - 1;
    }

    private static boolean fits(int[] s, int[] box) {
        return s[0] * s[1] == box[0] && s[2] >= box[1] && s[3] <= 20;
    }

    int fill() {
        int filled = 0;
        for (int[] box : boxes) {
            for (int i = 0; i < slabs.size() && box[2] == 0; i++) {
                int[] s = slabs.get(i);
                if (fits(s, box)) {
                    box[2] = 1;
                    box[3] = s[2];
                    box[4] = s[3];
                    slabs.remove(i);
                    filled++;
                }
            }
        }
        return filled;
    }

    int pass(int room, int days) {
        argument(room >= 10 && room <= 40 && days >= 1 && days <= 60);
        for (int i = 0; i < days; i++) {
            oneDay(room);
        }
        return count(7);
    }

    private void oneDay(int room) {
        day++;
        for (int[] s : slabs) {
            s[3] += (100 - s[2]) / 10;
            if (room > 24) {
                s[3] += (room - 24) * 2;
            }
            if (s[3] > 100) {
                s[3] = 100;
            }
            s[4]++;
        }
    }

    int told(int bowl, int what) {
        index(bowl, bowls.size());
        index(what, 8);
        return what == 7 ? temper(bowls.get(bowl)) : bowls.get(bowl)[what];
    }

    int about(int slab, int what) {
        index(slab, slabs.size());
        index(what, 7);
        int[] s = slabs.get(slab);
        if (what < 5) {
            return s[what];
        }
        if (what == 5) {
            return s[0] * s[1];
        }
        for (int[] box : boxes) {
            if (box[2] == 0 && fits(s, box)) {
                return boxes.indexOf(box);
            }
        }
        return -1;
    }

    int order(int box, int what) {
        index(box, boxes.size());
        index(what, 5);
        return boxes.get(box)[what];
    }

    int count(int what) {
        index(what, 8);
        int[] counts = {
            day, bowls.size(), slabs.size(), boxes.size(),
            boxes.stream().mapToInt(box -> box[2]).sum(),
            bowls.stream().mapToInt(b -> b[0]).sum(),
            slabs.stream().mapToInt(s -> s[0] * s[1]).sum(),
            (int) slabs.stream().filter(s -> s[3] > 20).count(),
        };
        return counts[what];
    }

    int would(int bowl, int warmth, int turns) {
        return copy().warm(bowl, warmth, turns);
    }

    int best(int bowl, int turns, int what) {
        index(bowl, bowls.size());
        index(what, 3);
        argument(turns >= 1 && turns <= 10);
        int[] best = {0, 0, -1};
        for (int first = 15; first <= 50; first++) {
            PlainMoulds one = copy();
            one.warm(bowl, first, turns);
            for (int second = 15; second <= 50; second++) {
                int temper = one.would(bowl, second, turns);
                if (temper > best[2]) {
                    best = new int[] {first, second, temper};
                }
            }
        }
        return best[what];
    }

    int until(int slab, int room) {
        index(slab, slabs.size());
        argument(room >= 10 && room <= 40);
        PlainMoulds later = copy();
        for (int days = 0; days <= 100; days++) {
            if (later.about(slab, 3) > 20) {
                return days;
            }
            later.oneDay(room);
        }
        return -1;
    }

    int advise() {
        int most = copy().fill();
        int advised = -1;
        for (int slab = 0; slab < slabs.size(); slab++) {
            PlainMoulds other = copy();
            other.polish(slab);
            int filled = other.fill();
            if (filled > most) {
                most = filled;
                advised = slab;
            }
        }
        return advised;
    }

    double mean() {
        return slabs.stream().mapToInt(s -> s[3]).average().orElse(0);
    }

    long digest() {
        List<Integer> told = new ArrayList<>();
        for (int what = 0; what < 8; what++) {
            told.add(count(what));
        }
        for (int bowl = 0; bowl < bowls.size(); bowl++) {
            for (int what = 0; what < 8; what++) {
                told.add(told(bowl, what));
            }
        }
        for (int slab = 0; slab < slabs.size(); slab++) {
            for (int what = 0; what < 7; what++) {
                told.add(about(slab, what));
            }
        }
        for (int box = 0; box < boxes.size(); box++) {
            for (int what = 0; what < 5; what++) {
                told.add(order(box, what));
            }
        }
        long d = 1789;
        for (int x : told) {
            d = d * 31 + x;
        }
        return d;
    }

    private static void index(int number, int size) {
        if (number < 0 || number >= size) {
            throw new IndexOutOfBoundsException();
        }
    }

    private static void argument(boolean holds) {
        if (!holds) {
            throw new IllegalArgumentException();
        }
    }

    private static void state(boolean holds) {
        if (!holds) {
            throw new IllegalStateException();
        }
    }
}
