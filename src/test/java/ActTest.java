import java.util.ArrayList;
import java.util.List;

/** Holds ACTS and THE TRACE (promises 44, 45) against classes that inherit as the KINDS do. */
public final class ActTest {
    private static final List<Integer> RAN = new ArrayList<>();

    private ActTest() {
    }

    private static class Groove {
        int m;
        int k;

        int hums(int x) {
            RAN.add(10);
            return x + m;
        }

        int lasts(int x) {
            RAN.add(11);
            return hums(x) * 2;
        }

        int wears(int x) {
            RAN.add(12);
            return lasts(x) ^ hums(x - k);
        }
    }

    private static class Even extends Groove {
        @Override
        int hums(int x) {
            RAN.add(20);
            return super.hums(x) + k;
        }
    }

    private static class Pair extends Even {
        @Override
        int lasts(int x) {
            RAN.add(30);
            return super.lasts(x) * 3;
        }
    }

    private static final class Slant extends Pair {
        @Override
        int lasts(int x) {
            RAN.add(40);
            return super.lasts(x + 1);
        }

        @Override
        int hums(int x) {
            RAN.add(41);
            return super.hums(x) - m;
        }
    }

    private static final class Deep extends Even {
        @Override
        int wears(int x) {
            RAN.add(50);
            return -super.wears(x);
        }
    }

    private static final class Rest extends Groove {
        @Override
        int wears(int x) {
            RAN.add(60);
            return super.wears(x) ^ 5;
        }
    }

    private static final class Told extends Groove {
        @Override
        int hums(int x) {
            RAN.add(70);
            return super.hums(x) * 2;
        }

        @Override
        int wears(int x) {
            RAN.add(71);
            return super.wears(x - k);
        }
    }

    private static Groove ofKind(int kind) {
        switch (kind) {
            case 0: return new Groove();
            case 1: return new Even();
            case 2: return new Pair();
            case 3: return new Rest();
            case 4: return new Deep();
            case 5: return new Slant();
            default: return new Told();
        }
    }

    private static int acted(Groove groove, int act, int x) {
        RAN.clear();
        switch (act) {
            case 0: return groove.hums(x);
            case 1: return groove.lasts(x);
            default: return groove.wears(x);
        }
    }

    public static void main(String[] args) {
        Draws draws = new Draws(7);
        for (int round = 0; round < 200; round++) {
            Due.about("acts, round " + round);
            RoadThatSings x = new RoadThatSings();
            for (int m = 0; m < 16; m++) {
                Groove groove = ofKind(draws.below(7));
                int kind = kindOf(groove);
                groove.m = m;
                groove.k = draws.from(1, 60);
                x.stretch(kind, groove.k, draws.below(61), 1);
                compare(x, groove, draws.below(3),
                    draws.below(2) == 0 ? draws.from(-50, 50) : (int) (draws.wide() >> 20));
            }
        }
        Due.end("ActTest");
    }

    private static int kindOf(Groove groove) {
        for (int kind = 0; kind < 7; kind++) {
            if (ofKind(kind).getClass() == groove.getClass()) {
                return kind;
            }
        }
        return -1;
    }

    private static void compare(RoadThatSings x, Groove groove, int act, int v) {
        int due = acted(groove, act, v);
        Due.due("act", x.act(groove.m, act, v), due);
        Due.due("status(6)", x.status(6), RAN.size());
        for (int i = 0; i <= RAN.size(); i++) {
            Due.due("trace", x.trace(i), i < RAN.size() ? RAN.get(i) : -1);
        }
    }
}
