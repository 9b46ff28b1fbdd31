/** Promises 13 to 16, 21 and 22: told, about, order, count, mean, digest. */
public final class ToldTest {
    public static void main(String[] args) {
        told();
        about();
        order();
        count();
        mean();
        digest();
        Calls.end();
    }

    private static void told() {
        Calls.play("13 told", """
                told 0 0 = throws.IndexOutOfBoundsException
                bowl 123 = 0
                seed 0 21 = 21
                warm 0 15 1 = 34
                warm 0 16 1 = 26
                warm 0 20 1 = 22
                warm 0 24 1 = 36
                told 0 0 = 123
                told 0 1 = 2
                told 0 2 = 4
                told 0 3 = 8
                told 0 4 = 8
                told 0 5 = 21
                told 0 6 = 24
                told 0 7 = 36
                told 0 8 = throws.IndexOutOfBoundsException
                told 0 -1 = throws.IndexOutOfBoundsException
                told 0 2147483647 = throws.IndexOutOfBoundsException
                told 1 0 = throws.IndexOutOfBoundsException
                told -1 0 = throws.IndexOutOfBoundsException
                told -2147483648 0 = throws.IndexOutOfBoundsException
                """);
    }

    private static void about() {
        Calls.play("14 about", """
                about 0 0 = throws.IndexOutOfBoundsException
                bowl 500 = 0
                seed 0 30 = 30
                cast 0 2 3 = 0
                pass 27 2 = 0
                about 0 0 = 2
                about 0 1 = 3
                about 0 2 = 60
                about 0 3 = 20
                about 0 4 = 2
                about 0 5 = 6
                about 0 6 = -1
                box 5 60 = 0
                box 6 61 = 1
                about 0 6 = -1
                box 6 60 = 2
                box 6 0 = 3
                about 0 6 = 2
                fill = 1
                cast 0 6 1 = 0
                # the box 2 is filled
                about 0 6 = 3
                pass 30 1 = 0
                about 0 3 = 16
                pass 10 1 = 0
                about 0 3 = 20
                about 0 6 = 3
                cast 0 5 1 = 1
                # the number 0 is an answer like the others
                about 1 6 = 0
                melt 1 0 = 380
                pass 10 1 = 1
                about 0 6 = -1
                about 0 7 = throws.IndexOutOfBoundsException
                about 0 -1 = throws.IndexOutOfBoundsException
                about 1 0 = throws.IndexOutOfBoundsException
                about -1 0 = throws.IndexOutOfBoundsException
                about 8 0 = throws.IndexOutOfBoundsException
                """);
    }

    private static void order() {
        Calls.play("15 order", """
                order 0 0 = throws.IndexOutOfBoundsException
                box 4 37 = 0
                order 0 0 = 4
                order 0 1 = 37
                order 0 2 = 0
                order 0 3 = -1
                order 0 4 = -1
                bowl 40 = 0
                seed 0 20 = 20
                cast 0 2 2 = 0
                pass 24 1 = 0
                fill = 1
                order 0 0 = 4
                order 0 1 = 37
                order 0 2 = 1
                order 0 3 = 40
                order 0 4 = 6
                order 0 5 = throws.IndexOutOfBoundsException
                order 0 -1 = throws.IndexOutOfBoundsException
                order 1 0 = throws.IndexOutOfBoundsException
                order -1 0 = throws.IndexOutOfBoundsException
                order 6 0 = throws.IndexOutOfBoundsException
                """);
    }

    private static void count() {
        Calls.play("16 count", """
                bowl 500 = 0
                bowl 70 = 1
                cast 0 2 2 = 0
                cast 0 2 1 = 1
                seed 0 30 = 30
                cast 0 1 1 = 2
                box 2 0 = 0
                box 36 0 = 1
                box 35 0 = 2
                pass 20 2 = 0
                fill = 1
                pass 20 1 = 1
                count 0 = 3
                count 1 = 2
                count 2 = 2
                count 3 = 3
                count 4 = 1
                count 5 = 500
                count 6 = 5
                count 7 = 1
                pass 20 2 = 1
                # temper 60: a bloom of 20
                count 7 = 1
                pass 20 1 = 2
                count 7 = 2
                count 8 = throws.IndexOutOfBoundsException
                count -1 = throws.IndexOutOfBoundsException
                count 2147483647 = throws.IndexOutOfBoundsException
                """);
    }

    private static void mean() {
        Calls.play("21 mean", """
                mean = 0.0
                bowl 500 = 0
                mean = 0.0
                cast 0 2 2 = 0
                seed 0 30 = 30
                cast 0 2 1 = 1
                mean = 0.0
                pass 24 1 = 0
                mean = 7.0
                pass 25 1 = 1
                mean = 16.0
                polish 0 = 7
                mean = 8.5
                melt 0 0 = 480
                mean = 10.0
                """);
        ChocolateMoulds moulds = new ChocolateMoulds();
        moulds.bowl(100);
        moulds.cast(0, 1, 1);
        moulds.pass(20, 1);
        moulds.cast(0, 1, 1);
        moulds.cast(0, 1, 1);
        Calls.due("21 mean of 10, 0 and 0", String.valueOf(moulds.mean()), String.valueOf(10 / 3.0));
    }

    private static void digest() {
        Calls.play("22 digest", """
                digest = 1525822065981949
                """);
        ChocolateMoulds moulds = new ChocolateMoulds();
        moulds.bowl(300);
        moulds.seed(0, 20);
        moulds.bowl(70);
        moulds.cast(0, 2, 3);
        moulds.cast(0, 1, 4);
        moulds.box(6, 30);
        moulds.box(4, 40);
        moulds.pass(24, 1);
        moulds.fill();
        moulds.cast(0, 5, 1);
        moulds.box(5, 10);
        Calls.due("22 digest", String.valueOf(moulds.digest()), String.valueOf(checksum(
                // count: day, bowls, slabs, boxes, filled, grams, squares, bloomed
                1, 2, 1, 3, 2, 220, 5, 0,
                // bowls
                150, 0, 0, 0, 0, 20, 20, 40,
                70, 0, 0, 0, 0, 0, 20, 0,
                // the slab
                5, 1, 40, 0, 0, 5, 2,
                // boxes
                6, 30, 1, 40, 6,
                4, 40, 1, 40, 6,
                5, 10, 0, -1, -1)));
    }

    private static long checksum(int... numbers) {
        long d = 1789;
        for (int number : numbers) {
            d = d * 31 + number;
        }
        return d;
    }
}
