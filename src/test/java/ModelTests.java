import java.util.Arrays;
import java.util.Random;

/** Long runs of calls, drawn by a fixed seed, on the class and on the model: each answer must be the same. */
public final class ModelTests {
    private static final int RUNS = 300;
    private static final int CALLS = 512;
    private static final Check CHECK = new Check();
    private static final int[][] FIELDS = {{2, 1}, {2, 2}, {2, 3}, {2, 4}, {2, 5}, {2, 6}, {3, 1}, {3, 2}, {3, 3},
        {5, 1}, {5, 2}, {7, 1}, {7, 2}, {11, 1}, {13, 1}, {17, 1}, {31, 1}, {61, 1}};

    private static final int[] EXTREME = {Integer.MIN_VALUE, Integer.MAX_VALUE, -65536, 65536, -64, 64, 65, 128};

    private final Random random;
    private final FieldPerms perms = new FieldPerms();
    private final Model model = new Model();
    /** What is still to be fed, ahead of a call of text(). */
    private byte[] waiting = new byte[0];
    private int length = 0;

    private ModelTests(long seed) {
        random = new Random(seed);
    }

    public static void main(String[] args) {
        for (int run = 0; run < RUNS; run++) {
            CHECK.begin("run " + run);
            ModelTests one = new ModelTests(run);
            for (int call = 0; call < CALLS; call++) {
                one.callOne();
            }
        }
        CHECK.end("ModelTests");
    }

    private void both(String what, Check.Call ofPerms, Check.Call ofModel) {
        CHECK.same(what, answer(ofModel), answer(ofPerms));
    }

    /** An exception is told apart from all answers by a number far from them. */
    private static long answer(Check.Call call) {
        try {
            return call.go();
        } catch (RuntimeException e) {
            return 0x7e00000000000000L + e.getClass().getName().hashCode();
        }
    }

    private void callOne() {
        if (waiting.length > 0) {
            feed(Arrays.copyOf(waiting, 20));
            waiting = Arrays.copyOfRange(waiting, Math.min(20, waiting.length), waiting.length);
        } else if (length >= 0) {
            int n = length;
            both("text " + n, () -> perms.text(n), () -> model.text(n));
            length = -1;
        } else {
            callAny(random.nextInt(36));
        }
    }

    private void feed(byte[] b) {
        int[] n = new int[5];
        for (int i = 0; i < 5; i++) {
            n[i] = Check.four(b, 4 * i);
        }
        both("feed", () -> perms.feed(n[0], n[1], n[2], n[3], n[4]), () -> model.feed(n));
    }

    private int poly() {
        if (random.nextInt(100) == 0) {
            return random.nextInt();
        }
        int count = model.told(4);
        return random.nextInt(12) == 0 ? random.nextInt(9) - 1 : random.nextInt(Math.max(count, 1));
    }

    private int point() {
        if (random.nextInt(100) == 0) {
            return EXTREME[random.nextInt(EXTREME.length)];
        }
        return random.nextInt(25) == 0 ? random.nextInt(67) - 1 : random.nextInt(model.told(0));
    }

    private int near(int least, int most) {
        if (random.nextInt(100) == 0) {
            return EXTREME[random.nextInt(EXTREME.length)];
        }
        return least - 1 + random.nextInt(most - least + 3);
    }

    private void callAny(int which) {
        if (which < 8) {
            act(which);
        } else if (which < 22) {
            ask(which);
        } else {
            askMore(which);
        }
    }

    private void act(int which) {
        int f = poly();
        int g = poly();
        int s = point();
        int v = point();
        int n = random.nextInt(5) == 0 ? random.nextInt() : random.nextInt(random.nextBoolean() ? 10 : 1000000001);
        switch (which) {
            case 0:
                if (model.told(5) == 0) {
                    plan();
                } else {
                    both("text " + n % 30, () -> perms.text(n % 30), () -> model.text(n % 30));
                }
                break;
            case 1:
            case 2:
                both("value " + f + " " + s + " " + v, () -> perms.value(f, s, v), () -> model.value(f, s, v));
                break;
            case 3:
                both("after " + f + " " + g, () -> perms.after(f, g), () -> model.after(f, g));
                break;
            case 4:
                both("again " + f + " " + n, () -> perms.again(f, n), () -> model.again(f, n));
                break;
            case 5:
                both("back " + f, () -> perms.back(f), () -> model.back(f));
                break;
            case 6:
                both("drop " + f, () -> perms.drop(f), () -> model.drop(f));
                break;
            default:
                both("undo", perms::undo, model::undo);
        }
    }

    private void ask(int which) {
        int f = poly();
        int s = point();
        int t = point();
        int n = near(0, which == 20 ? 64 : 6);
        int k = near(0, model.told(0) - 1);
        switch (which) {
            case 8:
                both("fault", perms::fault, model::fault);
                break;
            case 9:
            case 10:
                both("told " + n, () -> perms.told(n), () -> model.told(n));
                break;
            case 11:
            case 12:
                both("points " + s + " " + t + " " + (n - 1), () -> perms.points(s, t, n - 1),
                        () -> model.points(s, t, n - 1));
                break;
            case 13:
                both("at " + f + " " + s, () -> perms.at(f, s), () -> model.at(f, s));
                break;
            case 14:
                both("coefficient " + f + " " + k, () -> perms.coefficient(f, k), () -> model.coefficient(f, k));
                break;
            case 15:
                both("degree " + f, () -> perms.degree(f), () -> model.degree(f));
                break;
            case 16:
                both("taken " + f + " " + s, () -> perms.taken(f, s), () -> model.taken(f, s));
                break;
            case 17:
                both("image " + f, () -> perms.image(f), () -> model.image(f));
                break;
            case 18:
                both("permutes " + f, () -> perms.permutes(f), () -> model.permutes(f));
                break;
            case 19:
                both("powers " + f, () -> perms.powers(f), () -> model.powers(f));
                break;
            default:
                both("cycles " + f + " " + n, () -> perms.cycles(f, n), () -> model.cycles(f, n));
        }
    }

    private void askMore(int which) {
        int f = poly();
        int s = point();
        int n = near(2, 63);
        boolean dear = random.nextInt(6) == 0;
        switch (which) {
            case 22:
            case 23:
                both("order " + f, () -> perms.order(f), () -> model.order(f));
                break;
            case 24:
                both("even " + f, () -> perms.even(f), () -> model.even(f));
                break;
            case 25:
                both("orbit " + s, () -> perms.orbit(s), () -> model.orbit(s));
                break;
            case 26:
                both("orbits", perms::orbits, model::orbits);
                break;
            case 27:
                both("spread " + f, () -> perms.spread(f), () -> model.spread(f));
                break;
            case 28:
                both("monomials", dear ? perms::monomials : perms::print, dear ? model::monomials : model::print);
                break;
            case 29:
                if (dear) {
                    both("dicksons " + s, () -> perms.dicksons(s), () -> model.dicksons(s));
                }
                break;
            case 30:
                if (dear) {
                    both("binomials " + n, () -> perms.binomials(n), () -> model.binomials(n));
                }
                break;
            case 31:
                both("status " + n % 5, () -> perms.status(n % 5), () -> model.status(n % 5));
                break;
            case 32:
                if (random.nextInt(4) == 0) {
                    feed(new byte[20]);
                }
                break;
            default:
                both("print", perms::print, model::print);
        }
    }

    /** A text, most often a right one, to be fed and told by the next calls. */
    private void plan() {
        String text = new TextMaker(random).make(FIELDS[random.nextInt(FIELDS.length)]);
        waiting = Check.bytesOf(text);
        length = Math.min(text.length(), 300);
    }

    /** Draws texts by the grammar, and now and then spoils one. */
    private static final class TextMaker {
        private static final String SIGNS = "+-*^();xf019 dz,X\t";
        private final Random random;
        private int size;
        private int polys;

        TextMaker(Random random) {
            this.random = random;
        }

        String make(int[] field) {
            size = 1;
            for (int i = 0; i < field[1]; i++) {
                size *= field[0];
            }
            StringBuilder text = new StringBuilder(blank());
            text.append("field " + field[0] + " " + blank() + field[1] + blank() + ";");
            int most = random.nextInt(8);
            for (polys = 0; polys < most; polys++) {
                String next = blank() + "poly " + sum(0) + blank() + ";";
                if (text.length() + next.length() <= 298) {
                    text.append(next);
                } else {
                    most = polys;
                }
            }
            text.append(blank());
            for (int spoils = random.nextInt(6) - 3; spoils > 0; spoils--) {
                spoil(text);
            }
            return text.toString();
        }

        private void spoil(StringBuilder text) {
            int at = random.nextInt(text.length());
            char sign = SIGNS.charAt(random.nextInt(SIGNS.length()));
            switch (random.nextInt(4)) {
                case 0:
                    text.deleteCharAt(at);
                    break;
                case 1:
                    text.setCharAt(at, sign);
                    break;
                case 2:
                    text.setLength(at + 1);
                    break;
                default:
                    if (text.length() < 300) {
                        text.insert(at, sign);
                    }
            }
        }

        private String blank() {
            return random.nextInt(8) == 0 ? " ".repeat(1 + random.nextInt(2)) : "";
        }

        private String sum(int open) {
            StringBuilder text = new StringBuilder(product(open));
            while (random.nextInt(2 + open) == 0) {
                text.append(blank()).append(random.nextBoolean() ? '+' : '-').append(product(open));
            }
            return text.toString();
        }

        private String product(int open) {
            StringBuilder text = new StringBuilder(unit(open));
            while (random.nextInt(4) == 0) {
                text.append(blank()).append('*').append(unit(open));
            }
            return text.toString();
        }

        private String unit(int open) {
            String first = blank() + first(open);
            if (random.nextInt(3) > 0) {
                return first;
            }
            int most = new int[] {4, size + 1, 10001}[random.nextInt(3)];
            return first + blank() + "^" + blank() + random.nextInt(most);
        }

        private String first(int open) {
            int which = random.nextInt(12);
            boolean mayOpen = open < 4 || random.nextInt(40) == 0 && open < 6;
            if (which < 3) {
                return "" + random.nextInt(random.nextInt(60) == 0 ? size + 2 : size);
            }
            if (which < 5 && mayOpen) {
                return "(" + sum(open + 1) + blank() + ")";
            }
            if (which < 7 && mayOpen && (polys > 0 || random.nextInt(20) == 0)) {
                int f = random.nextInt(polys + (polys == 0 || random.nextInt(40) == 0 ? 1 : 0));
                return "f" + blank() + f + blank() + "(" + sum(open + 1) + blank() + ")";
            }
            if (which == 7) {
                int n = random.nextInt(random.nextBoolean() ? 8 : 300);
                return "dickson" + blank() + n + " " + blank() + random.nextInt(size);
            }
            return "x";
        }
    }
}
