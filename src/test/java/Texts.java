import java.util.Random;

/** Texts of realms, laws and campaigns by draws: most of them without a fault. */
final class Texts {
    private final Random random;

    Texts(Random random) {
        this.random = random;
    }

    private int below(int n) {
        return random.nextInt(n);
    }

    private String blank() {
        return below(15) == 0 ? "  ".substring(below(2)) : "";
    }

    private void item(StringBuilder b, char letter, int most, int odds) {
        if (below(odds) > 0) {
            int n = below(60) == 0 ? most + 1 : below(most + 1);
            b.append(blank()).append(letter).append(blank()).append(n < 10 && below(10) == 0 ? "0" : "").append(n);
        }
    }

    String realm() {
        int kingdoms = below(40) == 0 ? 5 : 2 + below(3);
        int fields = below(60) == 0 ? 9 : 1 + below(below(2) == 0 ? 8 : 4);
        StringBuilder out = new StringBuilder(blank());
        int left = kingdoms;
        int fought = fields;
        boolean rules = below(3) > 0;
        while (left > 0 || fought > 0 || rules) {
            int which = below(4);
            StringBuilder b = new StringBuilder();
            if (which == 0 && rules) {
                rules = false;
                b.append('s');
                item(b, 'w', 9, 3);
                item(b, 'c', 99, 3);
            } else if (which == 1 && fought > 0) {
                fought--;
                field(b, Math.min(4, kingdoms));
            } else if (which > 1 && left > 0) {
                left--;
                b.append('k');
                item(b, 'm', 30, 4);
                item(b, 's', 9, 3);
                item(b, 'b', 9, 3);
            }
            if (b.length() > 0) {
                out.append(out.toString().isBlank() ? "" : blank() + ";" + blank()).append(b).append(blank());
            }
        }
        return out.length() > 240 ? out.substring(0, 240) : out.toString();
    }

    private void field(StringBuilder b, int kingdoms) {
        int one = below(kingdoms);
        int other = below(60) == 0 ? one : (one + 1 + below(kingdoms - 1)) % kingdoms;
        b.append('f');
        if (one != 0) {
            b.append(blank()).append('a').append(one);
        }
        item(b, 'g', 9, 3);
        if (other != 1) {
            b.append('b').append(blank()).append(other);
        }
        item(b, 'n', 20, 3);
    }

    String law() {
        StringBuilder b = new StringBuilder();
        int clauses = 1 + below(3);
        for (int i = 0; i < clauses; i++) {
            b.append(i == 0 ? "" : ";").append(blank()).append('y').append(blank()).append(':').append(blank());
            if (below(3) > 0) {
                condition(b, 0);
                b.append('?').append(blank());
            }
            sum(b, 0);
        }
        return b.length() > 240 ? b.substring(0, 240) : b.toString();
    }

    private void condition(StringBuilder b, int depth) {
        unit(b, depth);
        for (int i = below(3); i > 1; i--) {
            b.append(below(2) == 0 ? '&' : '|').append(blank());
            unit(b, depth);
        }
    }

    private void unit(StringBuilder b, int depth) {
        int which = depth > 6 ? 9 : below(7);
        if (which == 0) {
            b.append('!').append(blank());
            unit(b, depth + 1);
        } else if (which == 1) {
            b.append('(').append(blank());
            condition(b, depth + 1);
            b.append(')').append(blank());
        } else {
            sum(b, depth);
            b.append("=<>".charAt(below(3))).append(blank());
            sum(b, depth);
        }
    }

    private void sum(StringBuilder b, int depth) {
        atom(b, depth);
        for (int i = below(4); i > 1; i--) {
            b.append("++-**/".charAt(below(6))).append(blank());
            atom(b, depth);
        }
    }

    private void atom(StringBuilder b, int depth) {
        int which = depth > 6 ? 9 : below(8);
        if (which == 0) {
            b.append('[').append(blank());
            sum(b, depth + 1);
            b.append(']').append(blank());
        } else if (which < 3) {
            b.append(below(5) == 0 ? below(10000) : below(12)).append(blank());
        } else {
            b.append("mgspwd".charAt(below(6))).append(blank());
        }
    }

    String campaign() {
        StringBuilder b = new StringBuilder(blank());
        int steps = below(20) == 0 ? 17 : 1 + below(16);
        for (int i = 0; i < steps; i++) {
            b.append(i == 0 ? "" : ";").append(blank());
            char kind = "yyyhhat".charAt(below(7));
            b.append(kind).append(blank());
            if (kind != 'y') {
                b.append(below(20) == 0 ? below(10) : below(3)).append(blank());
            }
        }
        return b.length() > 240 ? b.substring(0, 240) : b.toString();
    }

    /** The text with some of its signs changed, lost or doubled. */
    String spoilt(String text) {
        StringBuilder b = new StringBuilder(text);
        for (int i = below(4); i > 0 && b.length() > 0; i--) {
            int at = below(b.length());
            switch (below(4)) {
                case 0:
                    b.setCharAt(at, "yskfhat;:?!()[]=<>&|+-*/0123456789mgpwdbnc x\u00ff".charAt(below(45)));
                    break;
                case 1:
                    b.deleteCharAt(at);
                    break;
                case 2:
                    b.insert(at, b.charAt(below(b.length())));
                    break;
                default:
                    b.setLength(at);
                    break;
            }
        }
        return b.length() > 240 ? b.substring(0, 240) : b.toString();
    }
}
