/** Numbers with a least and a greatest: both are taken; the next on either side and the farthest are refused. */
final class Ends {
    private Ends() {
    }

    interface Taker {
        long take(int v);
    }

    static void ofArgument(Check check, String what, int least, int greatest, Taker taker) {
        of(check, IllegalArgumentException.class, what, new int[] {least, greatest}, taker);
    }

    static void ofIndex(Check check, String what, int count, Taker taker) {
        of(check, IndexOutOfBoundsException.class, what, new int[] {0, count - 1}, taker);
    }

    static void ofElement(Check check, String what, int count, Taker taker) {
        of(check, java.util.NoSuchElementException.class, what, new int[] {0, count - 1}, taker);
    }

    private static void of(Check check, Class<? extends RuntimeException> due, String what, int[] ends, Taker taker) {
        for (int v : ends) {
            check.yes(what + " " + v + " is taken", isTaken(taker, v));
        }
        for (int v : new int[] {ends[0] - 1, ends[1] + 1, Integer.MIN_VALUE, Integer.MAX_VALUE}) {
            check.refuses(what + " " + v, due, () -> taker.take(v));
        }
    }

    private static boolean isTaken(Taker taker, int v) {
        try {
            taker.take(v);
            return true;
        } catch (RuntimeException e) {
            return false;
        }
    }
}
