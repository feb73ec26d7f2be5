import java.util.ArrayList;
import java.util.List;

/**
 * Holds what is made of THE ROAD (promises 29 to 38, 42) against the plainest reckoning: every
 * SPACE and every number of TIMES is tried.
 */
public final class PlainTest {
    private final Draws draws;
    private final RoadThatSings x = new RoadThatSings();
    private final int[] asked = {2000, 4, 20, 200};
    private final List<int[]> cars = new ArrayList<>();
    private final List<List<int[]>> tunes = new ArrayList<>();

    private PlainTest(Draws draws) {
        this.draws = draws;
    }

    public static void main(String[] args) {
        Draws draws = new Draws(20261119);
        for (int round = 0; round < 400; round++) {
            Due.about("plain round " + round);
            PlainTest test = new PlainTest(draws);
            test.fill();
            for (int i = 0; i < 8; i++) {
                test.compareCuts();
                test.compareTwo();
                test.compareScale();
            }
            test.compareBest();
            test.compareHearing();
        }
        Due.end("PlainTest");
    }

    private void fill() {
        int[][] bounds = {{1, 9999}, {2, 30}, {0, 500}, {50, 2000}};
        for (int what = 0; what < 4; what++) {
            if (draws.below(2) == 0) {
                asked[what] = draws.from(bounds[what][0], bounds[what][1]);
                x.ask(what, asked[what]);
            }
        }
        int left = 100;
        for (int c = draws.below(7); c > 0; c--) {
            int[] car = {draws.from(1, 99), draws.below(1000), draws.below(left + 1)};
            left -= car[2];
            cars.add(car);
            x.car(car[0], car[1], car[2]);
        }
        int like = draws.below(13);
        for (int t = draws.from(1, 6); t > 0; t--) {
            int notes = draws.below(3) == 0 ? draws.below(13) : like;
            List<int[]> tune = new ArrayList<>();
            long[] row = new long[2 * notes];
            for (int i = 0; i < notes; i++) {
                tune.add(new int[] {pitch(), draws.from(1, 16)});
                row[2 * i] = tune.get(i)[0];
                row[2 * i + 1] = tune.get(i)[1];
            }
            tunes.add(tune);
            Due.tune(x, row);
        }
    }

    private int pitch() {
        switch (draws.below(4)) {
            case 0: return 0;
            case 1: return draws.from(1, 60);
            case 2: return 704 * draws.from(1, 99) / draws.from(8, 60);
            default: return draws.from(1, 9999);
        }
    }

    private static int off(int h, int w) {
        if (w == 0) {
            return h == 0 ? 0 : 999;
        }
        return h == 0 ? 999 : (int) Math.min(999L, Math.abs((long) h - w) * 1000 / w);
    }

    /** Of each note SPACE, TIMES, OFF. */
    private int[][] cut(List<int[]> tune, int speed) {
        int[][] cut = new int[tune.size()][];
        long beats = 0;
        long begins = 0;
        for (int i = 0; i < cut.length; i++) {
            int p = tune.get(i)[0];
            int space = p == 0 ? 10 : asked[1];
            for (int s = asked[1]; s <= 60 && p != 0; s++) {
                if (off(704 * speed / s, p) < off(704 * speed / space, p)) {
                    space = s;
                }
            }
            beats += tune.get(i)[1];
            long place = beats * asked[3] * 704 * speed / 10000;
            int times = 1;
            for (int t = 2; t <= 60; t++) {
                if (Math.abs(begins + t * space - place)
                    < Math.abs(begins + times * space - place)) {
                    times = t;
                }
            }
            begins += (long) times * space;
            cut[i] = new int[] {space, times, p == 0 ? 0 : off(704 * speed / space, p)};
        }
        return cut;
    }

    private boolean fits(int[][] cut) {
        int length = 0;
        boolean near = true;
        for (int[] note : cut) {
            length += note[0] * note[1];
            near &= note[2] <= asked[2];
        }
        return near && length <= asked[0];
    }

    private int served(List<int[]> tune, int[][] cut) {
        int share = 0;
        for (int[] car : cars) {
            boolean hears = true;
            for (int i = 0; i < cut.length; i++) {
                int p = tune.get(i)[0];
                hears &= off(p == 0 ? 0 : 704 * car[0] / cut[i][0], p) <= asked[2];
            }
            share += hears ? car[2] : 0;
        }
        return share;
    }

    private int brief(List<int[]> tune, int[][] cut, int speed) {
        int length = 0;
        for (int i = 0; i < cut.length; i++) {
            int times = 1;
            while (2L * (10000L * times * cut[i][0] / (704 * speed))
                < (long) tune.get(i)[1] * asked[3]) {
                times++;
            }
            length += times * cut[i][0];
        }
        return length;
    }

    private void compareCuts() {
        int speed = draws.from(1, 99);
        int bits = 0;
        for (int t = 0; t < tunes.size(); t++) {
            List<int[]> tune = tunes.get(t);
            int[][] cut = cut(tune, speed);
            for (int i = 0; i < cut.length && i < 4; i++) {
                int note = draws.below(cut.length);
                int what = draws.below(3);
                Due.due("cut", x.cut(t, note, speed, what), cut[note][what]);
            }
            Due.due("fits", x.fits(t, speed), fits(cut) ? 1 : 0);
            Due.due("served", x.served(t, speed), served(tune, cut));
            Due.due("brief", x.brief(t, speed), brief(tune, cut, speed));
            bits |= fits(cut) ? 1 << t : 0;
        }
        Due.due("can", x.can(speed), bits);
    }

    private void compareBest() {
        for (int t = 0; t < tunes.size(); t++) {
            int best = 1;
            for (int speed = 2; speed <= 99; speed++) {
                if (served(tunes.get(t), cut(tunes.get(t), speed))
                    > served(tunes.get(t), cut(tunes.get(t), best))) {
                    best = speed;
                }
            }
            Due.due("best", x.best(t), best);
        }
    }

    private void compareTwo() {
        int t = draws.below(tunes.size());
        int o = draws.below(tunes.size());
        int speed = draws.from(1, 99);
        int fast = draws.below(3) == 0 ? speed : draws.from(1, 99);
        int shared = tunes.get(t).size() == tunes.get(o).size() ? 0 : -6;
        for (int i = 0; shared != -6 && i < tunes.get(t).size(); i++) {
            int p = tunes.get(t).get(i)[0];
            int q = tunes.get(o).get(i)[0];
            boolean one = p == 0 && q == 0;
            for (int s = asked[1]; s <= 60; s++) {
                one |= off(704 * speed / s, p) <= asked[2] && off(704 * fast / s, q) <= asked[2];
            }
            shared += one ? 1 : 0;
        }
        Due.due("two", x.two(t, speed, o, fast), shared);
    }

    private void compareScale() {
        x.till(0);
        x.stretch(draws.below(7), draws.from(1, 60), draws.below(61), 1);
        int speed = draws.from(1, 99);
        int b = draws.below(2) == 0 ? draws.from(1, 30) : draws.from(1, 9999);
        int above = (int) ((long) x.hum(0, speed) * 1000 / b);
        int[] steps = {1000, 1059, 1122, 1189, 1260, 1335, 1414, 1498, 1587, 1682, 1782, 1888};
        int nearest = above == 0 ? -1 : 11;
        while (above >= 2000) {
            above /= 2;
        }
        while (above != 0 && above < 1000) {
            above *= 2;
        }
        for (int i = 10; nearest != -1 && i >= 0; i--) {
            if (Math.abs(above - steps[i]) <= Math.abs(above - steps[nearest])) {
                nearest = i;
            }
        }
        Due.due("scale", x.scale(0, speed, b), nearest);
    }

    private void compareHearing() {
        if (cars.isEmpty()) {
            return;
        }
        int t = draws.below(tunes.size());
        x.lay(t, cars.get(0)[0]);
        if (draws.below(3) == 0) {
            x.stretch(draws.below(7), draws.from(1, 60), draws.below(61), draws.from(1, 60));
        }
        int[] worst = new int[tunes.size()];
        int first = 0;
        for (int o = 0; o < tunes.size(); o++) {
            worst[o] = compareHeard(0, o);
            first = worst[o] < worst[first] ? o : first;
        }
        Due.due("read", x.read(0), first);
    }

    private int compareHeard(int car, int tune) {
        int worst = 0;
        int late = 0;
        int begins = 0;
        int due = 0;
        for (int i = 0; i < tunes.get(tune).size(); i++) {
            int[] note = tunes.get(tune).get(i);
            boolean there = i < x.status(0);
            int apart = there ? off(x.hum(i, cars.get(car)[0]), note[0]) : 999;
            Due.due("note", x.note(car, tune, i), apart);
            worst = Math.max(worst, apart);
            late = Math.max(late, Math.abs(begins - due));
            begins += there ? x.lasts(i, cars.get(car)[0]) : 0;
            due += note[1] * asked[3];
        }
        Due.due("WORST", x.hears(car, tune, 0), worst);
        Due.due("LATE", x.hears(car, tune, 1), late);
        Due.due("hears", x.hears(car, tune, 2), worst <= asked[2] ? 1 : 0);
        return worst;
    }
}
