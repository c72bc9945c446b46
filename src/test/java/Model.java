import java.math.BigInteger;
import java.util.List;
import java.util.Random;

/** The document's sums made another way: fractions of big numbers, laws as trees. */
final class Model {
    private Model() {
    }

    private static BigInteger big(long n) {
        return BigInteger.valueOf(n);
    }

    /** What a story counts, times 100 to the 21st for each sweep. */
    static BigInteger countOf(int weight, int number, int size, List<int[]> sweeps) {
        BigInteger count = big(weight);
        BigInteger whole = big(100).pow(21);
        for (int[] sweep : sweeps) {
            BigInteger silent = whole.multiply(big(100 - sweep[2])).divide(big(100));
            if (size >= sweep[1]) {
                silent = silent.multiply(big(100 - sweep[0]).pow(number)).divide(big(100).pow(number));
            }
            count = count.multiply(sweep[3] == 0 ? silent : whole.subtract(silent));
        }
        return count;
    }

    static int millionths(BigInteger count, BigInteger all) {
        return all.signum() == 0 ? 0 : count.multiply(big(1000000)).divide(all).intValueExact();
    }

    /** A sum or a test that is broken. */
    static final class Broken extends Exception {
        private static final long serialVersionUID = 1L;
    }

    /** A part, a sum, or a test: what stands left and right of its sign, or a number or word alone. */
    static final class Tree {
        final String sign;
        final Tree left;
        final Tree right;
        final long number;

        Tree(String sign, Tree left, Tree right, long number) {
            this.sign = sign;
            this.left = left;
            this.right = right;
            this.number = number;
        }

        long ask(String[] names, long[] words) throws Broken {
            if (sign.equals("number")) {
                return number;
            }
            for (int i = 0; i < names.length; i++) {
                if (names[i].equals(sign)) {
                    return words[i];
                }
            }
            long a = left.ask(names, words);
            if (sign.equals("not")) {
                return 1 - a;
            }
            if (sign.equals("and") && a == 0 || sign.equals("or") && a == 1) {
                return a;
            }
            long b = right.ask(names, words);
            return joined(a, b);
        }

        private long joined(long a, long b) throws Broken {
            switch (sign) {
                case "and":
                case "or": return b;
                case "<": return a < b ? 1 : 0;
                case ">": return a > b ? 1 : 0;
                case "=": return a == b ? 1 : 0;
                case "+": return kept(a + b);
                case "-": return kept(a - b);
                case "*": return kept(a * b);
                default:
                    if (b == 0) {
                        throw new Broken();
                    }
                    return kept(a / b);
            }
        }

        private static long kept(long n) throws Broken {
            if (n > 1000000000L || n < -1000000000L) {
                throw new Broken();
            }
            return n;
        }

        private int strength() {
            switch (sign) {
                case "or": return 0;
                case "and": return 1;
                case "not": return 2;
                case "<":
                case ">":
                case "=": return 3;
                case "+":
                case "-": return 4;
                case "*":
                case "/": return 5;
                default: return 6;
            }
        }

        /** The text of it, with brackets only where they are needed. */
        String text() {
            if (sign.equals("number")) {
                return Long.toString(number);
            }
            if (left == null) {
                return sign;
            }
            if (sign.equals("not")) {
                return "not " + inner(left, 2);
            }
            boolean isWord = sign.equals("and") || sign.equals("or");
            String middle = isWord ? " " + sign + " " : sign;
            int own = strength();
            return inner(left, own == 3 ? 4 : own) + middle + inner(right, own + 1);
        }

        private static String inner(Tree tree, int least) {
            if (tree.strength() >= least) {
                return tree.text();
            }
            return tree.strength() >= 4 ? "[" + tree.text() + "]" : "(" + tree.text() + ")";
        }
    }

    static Tree sum(Random random, String[] names, int depth) {
        if (depth == 0 || random.nextInt(4) == 0) {
            if (random.nextInt(2) == 0) {
                return new Tree(names[random.nextInt(names.length)], null, null, 0);
            }
            int[] numbers = {0, 1, 2, random.nextInt(20), random.nextInt(1000), 100000, 100000};
            return new Tree("number", null, null, numbers[random.nextInt(numbers.length)]);
        }
        String[] signs = {"+", "-", "*", "/"};
        return new Tree(signs[random.nextInt(4)], sum(random, names, depth - 1), sum(random, names, depth - 1), 0);
    }

    static Tree test(Random random, String[] names, int depth) {
        int kind = depth == 0 ? 3 : random.nextInt(4);
        if (kind == 0) {
            return new Tree("not", test(random, names, depth - 1), null, 0);
        }
        if (kind <= 2) {
            String sign = kind == 1 ? "and" : "or";
            return new Tree(sign, test(random, names, depth - 1), test(random, names, depth - 1), 0);
        }
        String[] signs = {"<", ">", "="};
        return new Tree(signs[random.nextInt(3)], sum(random, names, 1), sum(random, names, 1), 0);
    }
}
