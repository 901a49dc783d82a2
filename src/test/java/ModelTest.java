import java.util.Random;

/** Runs of 512 calls, right and wrong ones, each answer compared with Model's. The seeds are fixed. */
public final class ModelTest {
    private static final int[] FAR = {Integer.MIN_VALUE, Integer.MAX_VALUE, -1000000000, 1000000001, 128, -128};

    private final Due due;
    private final Random random;
    private final NumberMachines x = new NumberMachines();
    private final Model model = new Model();
    private final String name;
    private final int wrongOnes;

    private ModelTest(Due due, long seed) {
        this.due = due;
        this.random = new Random(seed);
        this.name = "seed " + seed + ", call ";
        this.wrongOnes = seed % 3 == 0 ? 10 : 60;
    }

    public static void main(String[] args) {
        int runs = args.length > 1 ? Integer.parseInt(args[1]) : 120;
        Due due = new Due();
        for (long seed = 1; seed <= runs && due.wrong() == 0; seed++) {
            new ModelTest(due, seed).run(512);
        }
        due.end();
    }

    private void run(int calls) {
        for (int call = 1; call <= calls && due.wrong() == 0; call++) {
            int kind = random.nextInt(100);
            if (kind < 40) {
                change(call);
            } else if (kind < 90) {
                ask(call);
            } else {
                imageOrCount(call);
            }
        }
    }

    /** A number from least to most; now and then one just beside, or far away. */
    private int some(int least, int most) {
        int odd = random.nextInt(wrongOnes * 2);
        if (odd == 0) {
            return random.nextBoolean() ? least - 1 : most + 1;
        }
        if (odd == 1 && random.nextInt(4) == 0) {
            return FAR[random.nextInt(FAR.length)];
        }
        int edge = random.nextInt(12);
        return edge == 0 ? least : edge == 1 ? most : least + random.nextInt(most - least + 1);
    }

    private int slot() {
        return some(0, 5);
    }

    private int number() {
        int kind = random.nextInt(4);
        return kind == 0 ? some(0, 1000000000) : kind == 1 ? 1000000000 - random.nextInt(300) : some(0, 400);
    }

    /** Small numbers more often, so that SETS come about that are neither plain nor LARGE. */
    private int mostlySmall(int least, int most) {
        return random.nextInt(3) == 0 ? some(least, most) : some(least, Math.min(most, least + 5));
    }

    private void change(int call) {
        int to = slot();
        int from = slot();
        switch (random.nextInt(20)) {
            case 0: {
                if (random.nextInt(4) == 0) {
                    int n = some(2, 5);
                    is(call, "base(" + n + ")", x.base(n), model.base(n));
                }
                break;
            }
            case 1: case 2: case 3: case 4: case 5: case 6: {
                int kind = random.nextInt(3) == 0 ? some(0, 4) : some(0, 2);
                int a = some(0, 100);
                int m = random.nextBoolean() ? some(1, 60) : some(1, 12);
                is(call, "put(" + to + ", " + kind + ", " + a + ", " + m + ")",
                        x.put(to, kind, a, m), model.put(to, kind, a, m));
                break;
            }
            case 7: case 8: case 9: case 10: case 11: {
                int other = slot();
                int way = some(0, 3);
                is(call, "join(" + to + ", " + from + ", " + other + ", " + way + ")",
                        x.join(to, from, other, way), model.join(to, from, other, way));
                break;
            }
            case 12: {
                is(call, "turn(" + to + ", " + from + ")", x.turn(to, from), model.turn(to, from));
                break;
            }
            case 13: case 14: case 15: {
                int c = random.nextBoolean() ? some(-100, 100) : some(-9, 9);
                is(call, "shift(" + to + ", " + from + ", " + c + ")", x.shift(to, from, c), model.shift(to, from, c));
                break;
            }
            case 16: case 17: {
                int c = mostlySmall(1, 12);
                int d = some(0, 20);
                is(call, "stretch(" + to + ", " + from + ", " + c + ", " + d + ")",
                        x.stretch(to, from, c, d), model.stretch(to, from, c, d));
                break;
            }
            default: {
                int c = some(1, 12);
                int d = some(0, 20);
                is(call, "shrink(" + to + ", " + from + ", " + c + ", " + d + ")",
                        x.shrink(to, from, c, d), model.shrink(to, from, c, d));
                break;
            }
        }
    }

    private void ask(int call) {
        int slot = slot();
        switch (random.nextInt(7)) {
            case 0: {
                int what = some(0, 5);
                is(call, "told(" + slot + ", " + what + ")", x.told(slot, what), model.told(slot, what));
                break;
            }
            case 1: {
                int states = Math.max(1, model.told(slot, 2));
                int i = some(0, states - 1);
                int what = some(0, 7);
                is(call, "state(" + slot + ", " + i + ", " + what + ")",
                        x.state(slot, i, what), model.state(slot, i, what));
                break;
            }
            case 2: {
                int number = number();
                int n = mostlySmall(0, 40);
                is(call, "walk(" + slot + ", " + number + ", " + n + ")",
                        x.walk(slot, number, n), model.walk(slot, number, n));
                break;
            }
            case 3: {
                int number = number();
                is(call, "has(" + slot + ", " + number + ")", x.has(slot, number), model.has(slot, number));
                break;
            }
            case 4: {
                int number = number();
                is(call, "next(" + slot + ", " + number + ")", x.next(slot, number), model.next(slot, number));
                break;
            }
            case 5: {
                int number = number();
                is(call, "below(" + slot + ", " + number + ")", x.below(slot, number), model.below(slot, number));
                break;
            }
            default: {
                int other = slot();
                int what = some(0, 4);
                is(call, "alike(" + slot + ", " + other + ", " + what + ")",
                        x.alike(slot, other, what), model.alike(slot, other, what));
                break;
            }
        }
    }

    private void imageOrCount(int call) {
        int kind = random.nextInt(8);
        if (kind == 0) {
            int k = some(0, 1);
            is(call, "image(" + k + ")", x.image(k), model.image(k));
        } else if (kind == 1) {
            int k = some(0, 1);
            is(call, "restore(" + k + ")", x.restore(k), model.restore(k));
        } else {
            int what = some(0, 4);
            is(call, "count(" + what + ")", x.count(what), model.count(what));
        }
    }

    private void is(int call, String text, int got, int want) {
        due.is(name + call + ": " + text, got, want);
    }
}
