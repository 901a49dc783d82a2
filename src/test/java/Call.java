/** A call by its name and its numbers, so that a test can keep it, put another number in, and tell it when it fails. */
final class Call {
    private final String name;
    private final int[] numbers;

    Call(String name, int... numbers) {
        this.name = name;
        this.numbers = numbers.clone();
    }

    Call with(int place, int number) {
        Call other = new Call(name, numbers);
        other.numbers[place] = number;
        return other;
    }

    int on(NumberMachines x) {
        int[] n = numbers;
        switch (name) {
            case "base": return x.base(n[0]);
            case "put": return x.put(n[0], n[1], n[2], n[3]);
            case "join": return x.join(n[0], n[1], n[2], n[3]);
            case "turn": return x.turn(n[0], n[1]);
            case "shift": return x.shift(n[0], n[1], n[2]);
            case "stretch": return x.stretch(n[0], n[1], n[2], n[3]);
            case "shrink": return x.shrink(n[0], n[1], n[2], n[3]);
            case "told": return x.told(n[0], n[1]);
            case "state": return x.state(n[0], n[1], n[2]);
            case "walk": return x.walk(n[0], n[1], n[2]);
            case "has": return x.has(n[0], n[1]);
            case "next": return x.next(n[0], n[1]);
            case "below": return x.below(n[0], n[1]);
            case "alike": return x.alike(n[0], n[1], n[2]);
            case "image": return x.image(n[0]);
            case "restore": return x.restore(n[0]);
            case "count": return x.count(n[0]);
            default: throw new IllegalArgumentException("there is no call " + name);
        }
    }

    @Override
    public String toString() {
        StringBuilder text = new StringBuilder(name);
        for (int k = 0; k < numbers.length; k++) {
            text.append(k == 0 ? "(" : ", ").append(numbers[k]);
        }
        return text.append(')').toString();
    }
}
