/** Promises 13 to 16, 21 and 22: a test for each sentence of the document that names a boundary case. */
public final class ToldEdgesTest {
    public static void main(String[] args) {
        toldOfNoBowl();
        toldIs0To7();
        aboutNoSlab();
        aboutIs0To6();
        theFirstEmptyBoxOrNone();
        orderOfNoBox();
        orderIs0To4();
        minusOneOfAnEmptyBox();
        theSlabAsItWasFilled();
        countIs0To7();
        countOfEverythingFull();
        countOfABloomOfMoreThan20();
        meanWithoutAny();
        meanOfSome();
        digestOfANewObject();
        digestTakesInAMinusOne();
        digestWrapsAround();
        digestOfEverythingFull();
        Calls.end();
    }

    private static void toldOfNoBowl() {
        Calls.play("13: throws if there is no such bowl", """
                told 0 0 = throws.IndexOutOfBoundsException
                bowl 1 = 0
                bowl 2 = 1
                told 2 0 = throws.IndexOutOfBoundsException
                told -1 0 = throws.IndexOutOfBoundsException
                told 5 0 = throws.IndexOutOfBoundsException
                told -2147483648 0 = throws.IndexOutOfBoundsException
                told 2147483647 0 = throws.IndexOutOfBoundsException
                told 0 0 = 1
                told 1 0 = 2
                bowl 3 = 2
                bowl 4 = 3
                bowl 5 = 4
                told 4 0 = 5
                told 5 0 = throws.IndexOutOfBoundsException
                """);
    }

    private static void toldIs0To7() {
        Calls.play("13: throws if what is not 0 to 7", """
                bowl 123 = 0
                warm 0 15 1 = 0
                warm 0 16 1 = 0
                warm 0 20 1 = 0
                warm 0 24 1 = 0
                seed 0 20 = 20
                told 0 -1 = throws.IndexOutOfBoundsException
                told 0 8 = throws.IndexOutOfBoundsException
                told 0 -2147483648 = throws.IndexOutOfBoundsException
                told 0 2147483647 = throws.IndexOutOfBoundsException
                told 0 0 = 123
                told 0 1 = 2
                told 0 2 = 4
                told 0 3 = 8
                told 0 4 = 8
                told 0 5 = 20
                told 0 6 = 24
                told 0 7 = 34
                """);
    }

    private static void aboutNoSlab() {
        Calls.play("14: throws if there is no such slab", """
                about 0 0 = throws.IndexOutOfBoundsException
                bowl 1000 = 0
                cast 0 1 1 = 0
                cast 0 2 1 = 1
                about 2 0 = throws.IndexOutOfBoundsException
                about -1 0 = throws.IndexOutOfBoundsException
                about 8 0 = throws.IndexOutOfBoundsException
                about -2147483648 0 = throws.IndexOutOfBoundsException
                about 2147483647 0 = throws.IndexOutOfBoundsException
                about 1 0 = 2
                melt 0 0 = 980
                about 1 0 = throws.IndexOutOfBoundsException
                about 0 0 = 2
                box 2 0 = 0
                fill = 1
                about 0 0 = throws.IndexOutOfBoundsException
                """);
        Calls.play("14: the number 8 is no slab, though there are 8", """
                bowl 1000 = 0
                cast 0 1 1 = 0
                cast 0 1 1 = 1
                cast 0 1 1 = 2
                cast 0 1 1 = 3
                cast 0 1 1 = 4
                cast 0 1 1 = 5
                cast 0 1 1 = 6
                cast 0 3 1 = 7
                about 7 0 = 3
                about 8 0 = throws.IndexOutOfBoundsException
                """);
    }

    private static void aboutIs0To6() {
        Calls.play("14: throws if what is not 0 to 6", """
                bowl 1000 = 0
                seed 0 30 = 30
                cast 0 4 5 = 0
                pass 25 1 = 0
                pass 24 2 = 0
                about 0 -1 = throws.IndexOutOfBoundsException
                about 0 7 = throws.IndexOutOfBoundsException
                about 0 -2147483648 = throws.IndexOutOfBoundsException
                about 0 2147483647 = throws.IndexOutOfBoundsException
                about 0 0 = 4
                about 0 1 = 5
                about 0 2 = 60
                about 0 3 = 14
                about 0 4 = 3
                about 0 5 = 20
                about 0 6 = -1
                """);
    }

    private static void theFirstEmptyBoxOrNone() {
        Calls.play("14: the first empty box that it fits, -1 for none", """
                bowl 1000 = 0
                cast 0 1 1 = 0
                cast 0 2 1 = 1
                about 0 6 = -1
                box 1 1 = 0
                about 0 6 = -1
                box 1 0 = 1
                box 1 0 = 2
                box 2 0 = 3
                about 0 6 = 1
                about 1 6 = 3
                fill = 2
                cast 0 1 1 = 0
                # the box 1 is filled
                about 0 6 = 2
                fill = 1
                cast 0 1 1 = 0
                about 0 6 = -1
                box 1 0 = 4
                box 1 0 = 5
                about 0 6 = 4
                fill = 1
                cast 0 1 1 = 0
                about 0 6 = 5
                # it is told of each slab as if it were alone
                cast 0 1 1 = 1
                about 1 6 = 5
                """);
    }

    private static void orderOfNoBox() {
        Calls.play("15: throws if there is no such box", """
                order 0 0 = throws.IndexOutOfBoundsException
                box 1 2 = 0
                box 3 4 = 1
                order 2 0 = throws.IndexOutOfBoundsException
                order -1 0 = throws.IndexOutOfBoundsException
                order 6 0 = throws.IndexOutOfBoundsException
                order -2147483648 0 = throws.IndexOutOfBoundsException
                order 2147483647 0 = throws.IndexOutOfBoundsException
                order 1 0 = 3
                box 5 6 = 2
                box 7 8 = 3
                box 9 10 = 4
                box 11 12 = 5
                order 5 0 = 11
                order 6 0 = throws.IndexOutOfBoundsException
                """);
    }

    private static void orderIs0To4() {
        Calls.play("15: throws if what is not 0 to 4", """
                box 4 37 = 0
                order 0 -1 = throws.IndexOutOfBoundsException
                order 0 5 = throws.IndexOutOfBoundsException
                order 0 -2147483648 = throws.IndexOutOfBoundsException
                order 0 2147483647 = throws.IndexOutOfBoundsException
                order 0 0 = 4
                order 0 1 = 37
                order 0 2 = 0
                order 0 3 = -1
                order 0 4 = -1
                """);
    }

    private static void minusOneOfAnEmptyBox() {
        Calls.play("15: 1 if it is filled, else 0; -1 for both if it is empty, not if they are 0", """
                box 1 0 = 0
                box 1 0 = 1
                order 0 2 = 0
                order 0 3 = -1
                order 0 4 = -1
                bowl 10 = 0
                cast 0 1 1 = 0
                fill = 1
                order 0 2 = 1
                order 0 3 = 0
                order 0 4 = 0
                order 1 2 = 0
                order 1 3 = -1
                order 1 4 = -1
                """);
    }

    private static void theSlabAsItWasFilled() {
        Calls.play("15: the temper and the bloom of the slab as it was filled", """
                box 1 10 = 0
                bowl 1000 = 0
                seed 0 20 = 20
                cast 0 1 1 = 0
                pass 24 3 = 0
                polish 0 = 3
                pass 24 1 = 0
                fill = 1
                order 0 1 = 10
                order 0 3 = 40
                order 0 4 = 9
                # days and the next slab leave it alone
                cast 0 1 1 = 0
                pass 40 60 = 1
                polish 0 = 85
                order 0 3 = 40
                order 0 4 = 9
                """);
    }

    private static void countIs0To7() {
        Calls.play("16: throws if what is not 0 to 7", """
                count -1 = throws.IndexOutOfBoundsException
                count 8 = throws.IndexOutOfBoundsException
                count -2147483648 = throws.IndexOutOfBoundsException
                count 2147483647 = throws.IndexOutOfBoundsException
                count 0 = 0
                count 7 = 0
                """);
    }

    private static void countOfEverythingFull() {
        Calls.play("16: everything is full", """
                bowl 2000 = 0
                bowl 2000 = 1
                bowl 2000 = 2
                bowl 2000 = 3
                bowl 2000 = 4
                count 1 = 5
                count 5 = 10000
                cast 0 6 6 = 0
                cast 0 6 6 = 1
                cast 0 6 6 = 2
                cast 1 6 6 = 3
                cast 1 6 6 = 4
                cast 1 6 6 = 5
                cast 2 6 6 = 6
                cast 2 6 6 = 7
                count 2 = 8
                count 5 = 7120
                count 6 = 288
                box 36 0 = 0
                box 36 0 = 1
                box 36 0 = 2
                box 36 0 = 3
                box 36 0 = 4
                box 36 0 = 5
                count 3 = 6
                count 4 = 0
                fill = 6
                count 4 = 6
                count 2 = 2
                count 6 = 72
                count 7 = 0
                pass 40 60 = 2
                count 7 = 2
                count 0 = 60
                count 5 = 7120
                """);
    }

    private static void countOfABloomOfMoreThan20() {
        Calls.play("16: slabs with a bloom of more than 20: 20, 21 and 14", """
                bowl 100 = 0
                seed 0 30 = 30
                cast 0 1 1 = 0
                cast 0 1 1 = 1
                # 4 a day
                pass 24 5 = 0
                about 0 3 = 20
                count 7 = 0
                pass 24 1 = 2
                count 7 = 2
                polish 1 = 9
                count 7 = 1
                """);
        Calls.play("16: a bloom of 21", """
                bowl 100 = 0
                seed 0 15 = 15
                cast 0 1 1 = 0
                pass 24 3 = 1
                about 0 3 = 21
                count 7 = 1
                """);
    }

    private static void meanWithoutAny() {
        Calls.play("21: 0 without any", """
                mean = 0.0
                bowl 100 = 0
                mean = 0.0
                cast 0 1 1 = 0
                mean = 0.0
                pass 24 1 = 0
                mean = 10.0
                melt 0 0 = 100
                mean = 0.0
                cast 0 1 1 = 0
                pass 24 1 = 0
                box 1 0 = 0
                fill = 1
                mean = 0.0
                """);
    }

    private static void meanOfSome() {
        Calls.play("21: the mean is not cut", """
                bowl 100 = 0
                cast 0 1 1 = 0
                pass 24 1 = 0
                cast 0 1 1 = 1
                cast 0 1 1 = 2
                cast 0 1 1 = 3
                mean = 2.5
                pass 40 60 = 4
                mean = 100.0
                polish 0 = 85
                mean = 96.25
                """);
        ChocolateMoulds moulds = new ChocolateMoulds();
        moulds.bowl(100);
        for (int i = 0; i < 7; i++) {
            moulds.cast(0, 1, 1);
        }
        moulds.pass(24, 2);
        moulds.polish(6);
        Calls.due("21: the mean of six times 20 and one 5", String.valueOf(moulds.mean()), String.valueOf(125 / 7.0));
    }

    private static void digestOfANewObject() {
        long d = 1789;
        for (int what = 0; what < 8; what++) {
            d *= 31;
        }
        Calls.due("22: d starts with 1789; 8 counts of a new object",
                String.valueOf(new ChocolateMoulds().digest()), String.valueOf(d));
    }

    private static void digestTakesInAMinusOne() {
        ChocolateMoulds moulds = new ChocolateMoulds();
        moulds.box(1, 2);
        Calls.due("22: what order() tells of an empty box", String.valueOf(moulds.digest()),
                String.valueOf(checksum(0, 0, 0, 1, 0, 0, 0, 0, 1, 2, 0, -1, -1)));
        moulds = new ChocolateMoulds();
        moulds.bowl(10);
        moulds.cast(0, 1, 1);
        Calls.due("22: what about() tells of a slab that fits no box", String.valueOf(moulds.digest()),
                String.valueOf(checksum(0, 1, 1, 0, 0, 0, 1, 0,
                        0, 0, 0, 0, 0, 0, 20, 0,
                        1, 1, 0, 0, 0, 1, -1)));
    }

    private static void digestWrapsAround() {
        ChocolateMoulds moulds = new ChocolateMoulds();
        moulds.bowl(2000);
        java.math.BigInteger exact = java.math.BigInteger.valueOf(1789);
        int[] numbers = {0, 1, 0, 0, 0, 2000, 0, 0, 2000, 0, 0, 0, 0, 0, 20, 0};
        for (int number : numbers) {
            exact = exact.multiply(java.math.BigInteger.valueOf(31)).add(java.math.BigInteger.valueOf(number));
        }
        Calls.due("22: the exact number is longer than 64 bits", String.valueOf(exact.bitLength() > 64), "true");
        Calls.due("22: wraps around as a 64-bit integer",
                String.valueOf(moulds.digest()), String.valueOf(exact.longValue()));
    }

    /** The digest is made of what the telling calls answer, in the order of the document, with all rows full. */
    private static void digestOfEverythingFull() {
        ChocolateMoulds moulds = new ChocolateMoulds();
        for (int bowl = 0; bowl < 5; bowl++) {
            moulds.bowl(2000 - bowl);
            moulds.seed(bowl, 30 - bowl);
        }
        for (int slab = 0; slab < 8; slab++) {
            moulds.cast(slab % 5, 1 + slab % 6, 1 + slab % 2);
        }
        for (int box = 0; box < 6; box++) {
            moulds.box(1 + box, 10 * box);
        }
        moulds.pass(26, 2);
        moulds.fill();
        for (int slab = moulds.count(2); slab < 8; slab++) {
            moulds.cast(4, 2, 3);
        }
        Calls.due("22: all in their order", String.valueOf(moulds.digest()), String.valueOf(checksumOf(moulds)));
    }

    private static long checksumOf(ChocolateMoulds moulds) {
        long d = 1789;
        for (int what = 0; what <= 7; what++) {
            d = d * 31 + moulds.count(what);
        }
        for (int bowl = 0; bowl < 5; bowl++) {
            for (int what = 0; what <= 7; what++) {
                d = d * 31 + moulds.told(bowl, what);
            }
        }
        for (int slab = 0; slab < 8; slab++) {
            for (int what = 0; what <= 6; what++) {
                d = d * 31 + moulds.about(slab, what);
            }
        }
        for (int box = 0; box < 6; box++) {
            for (int what = 0; what <= 4; what++) {
                d = d * 31 + moulds.order(box, what);
            }
        }
        return d;
    }

    private static long checksum(int... numbers) {
        long d = 1789;
        for (int number : numbers) {
            d = d * 31 + number;
        }
        return d;
    }
}
