import java.util.Random;

/** Texts of expressions, drawn: of some depth, and often such that they can be. */
final class Expressions {
    private final Random random;

    Expressions(Random random) {
        this.random = random;
    }

    private int below(int n) {
        return random.nextInt(n);
    }

    String register() {
        return String.valueOf((char) ('a' + (below(3) == 0 ? below(8) : below(4))));
    }

    private String number(int bound) {
        return String.valueOf(below(4) == 0 ? below(bound) : below(Math.min(bound, 4)));
    }

    /** An expression that often can be, as its kinds ask of what stands in them. */
    String any(int depth) {
        if (depth <= 0) {
            int sort = below(6);
            return sort == 0 ? number(1000) : sort < 3 ? "x" : register();
        }
        switch (below(18)) {
            case 0:
                return any(depth - 1) + "+" + any(depth - 1);
            case 1:
                return any(depth - 1) + "-" + any(depth - 1);
            case 2:
                return "(" + any(depth - 1) + ")*(" + any(depth - 1) + ")";
            case 3:
                return any(depth - 1) + "/(" + (1 + below(5)) + "+x*" + any(depth - 1) + ")";
            case 4:
                return "(" + any(depth - 1) + ")^" + number(100);
            case 5:
                return "D(" + any(depth - 1) + ")";
            case 6:
                return "S(" + any(depth - 1) + ")";
            case 7:
                return "L(1+x*" + any(depth - 1) + ")";
            case 8:
                return "E(x*" + any(depth - 1) + ")";
            case 9:
                return "R(x*(" + (1 + below(3)) + "+x*" + any(depth - 1) + "))";
            case 10:
                return "Q" + (2 + below(8)) + "(" + (1 + below(9)) + "+x*" + any(depth - 1) + ")";
            case 11:
                return "T" + (1 + below(24)) + "(" + any(depth - 1) + ")";
            case 12:
                return "C(" + any(depth - 1) + ",x*" + any(depth - 1) + ")";
            case 13:
                return "H(" + any(depth - 1) + "," + any(depth - 1) + ")";
            case 14:
                return "(" + any(depth - 1) + ")/(x" + (below(2) == 0 ? "^" + below(4) : "*" + register()) + ")";
            case 15:
                return "DSLER".charAt(below(5)) + "(" + any(depth - 1) + ")";
            case 16:
                return any(depth - 1) + "*" + any(0) + "/" + any(0);
            default:
                return "C(" + any(depth - 1) + "," + any(depth - 1) + ")";
        }
    }

    String row(int n, String between) {
        StringBuilder s = new StringBuilder();
        for (int i = 0; i < n; i++) {
            s.append(i == 0 ? "" : between).append(any(0));
        }
        return s.toString();
    }
}
