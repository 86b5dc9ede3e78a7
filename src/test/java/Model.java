import java.math.BigInteger;
import java.util.ArrayList;
import java.util.Comparator;
import java.util.List;
import java.util.Map;
import java.util.TreeMap;
import java.util.TreeSet;
import java.util.function.IntPredicate;
import java.util.function.IntUnaryOperator;
import java.util.function.ToIntFunction;
import java.util.regex.Matcher;
import java.util.regex.Pattern;
import java.util.stream.IntStream;

/**
 * The document a second time, as its sentences stand and with the whole library: slow, without
 * rows that are used again, so that it errs elsewhere than the class that it is held against.
 */
final class Model {
    private static final long REFUSED = 4000000000000000000L;
    private static final Pattern STREET =
        Pattern.compile("(w[wobplf]\\d\\d;|[msb]\\d\\d;|n\\d{7};|h\\d\\d;)+", Pattern.UNICODE_CHARACTER_CLASS);

    private static final class Wall {
        int kind;
        int figure;
        int owner;
        int at;
        int holes;

        Wall(int kind, int figure, int owner) {
            this.kind = kind;
            this.figure = figure;
            this.owner = owner;
            this.at = owner;
        }

        Wall copy() {
            Wall w = new Wall(kind, figure, owner);
            w.at = at;
            w.holes = holes;
            return w;
        }

        int covers(int part) {
            double plain = figure + 1;
            double[] all = {plain, plain + (part < 3 ? 3 : 0), Math.floor(plain / 2), plain, Math.floor(plain / 2) + 1, plain * 2};
            return (int) all[kind];
        }

        boolean reaches(int steps) {
            return List.of("123", "123", "1234567", "246", "1", "1246").get(kind).contains("" + steps);
        }
    }

    private static final class World {
        int hour;
        int rain;
        int goings;
        int[] watched = {-1, -1};
        List<Wall> walls = new ArrayList<>();
        int[][] needs = new int[8][6];
        boolean[][] bars = new boolean[8][8];
        Map<Integer, TreeSet<Integer>> seen = new TreeMap<>();

        World copy() {
            World w = new World();
            w.hour = hour;
            walls.forEach(one -> w.walls.add(one.copy()));
            for (int h = 0; h < 8; h++) {
                w.needs[h] = needs[h].clone();
                w.bars[h] = bars[h].clone();
            }
            seen.forEach((at, houses) -> w.seen.put(at, new TreeSet<>(houses)));
            return w;
        }

        int has(int house) {
            return walls.stream().filter(w -> w.at == house).mapToInt(w -> w.covers(hour % 6)).sum();
        }

        int lacks(int house) {
            return Math.max(0, needs[house][hour % 6] + rain - has(house));
        }

        int lacksWithout(Wall wall) {
            int was = wall.at;
            wall.at = -1;
            int lacking = lacks(was);
            wall.at = was;
            return lacking;
        }

        int allLack() {
            return IntStream.range(0, 8).map(this::lacks).sum();
        }

        boolean canGo(Wall wall, int from, int to) {
            return from != to && wall.reaches(Math.abs(from - to)) && !bars[from][to];
        }

        void hour() {
            hour++;
            for (Wall wall : walls) {
                int to = wall.at;
                if (wall.at != wall.owner && lacks(wall.owner) > 0 && canGo(wall, wall.at, wall.owner)) {
                    to = wall.owner;
                } else {
                    List<Integer> others = new ArrayList<>();
                    for (int house = 0; house < 8; house++) {
                        if (canGo(wall, wall.at, house)) {
                            others.add(house);
                        }
                    }
                    others.sort(Comparator.comparing((Integer house) -> -lacks(house)).thenComparing(house -> house));
                    if (!others.isEmpty() && lacks(others.get(0)) > lacksWithout(wall)) {
                        to = others.get(0);
                    }
                }
                if (to != wall.at) {
                    if (watched[0] == wall.at && watched[1] == to || watched[1] == wall.at && watched[0] == to) {
                        goings++;
                    }
                    wall.holes++;
                    wall.at = to;
                }
            }
            TreeSet<Integer> now = new TreeSet<>();
            IntStream.range(0, 8).filter(h -> lacks(h) > 0).forEach(now::add);
            seen.put(hour, now);
        }

        World later(int n) {
            World w = copy();
            for (int i = 0; i < n; i++) {
                w.hour();
            }
            return w;
        }
    }

    private World now = new World();
    private World kept;
    private String letters = "";
    private List<Integer> row = new ArrayList<>();
    private final int[] refused = new int[7];

    private int no(int number) {
        refused[-number]++;
        return number;
    }

    private long noLong(int number) {
        return REFUSED - no(number);
    }

    private boolean house(int h) {
        return h >= 0 && h <= 7;
    }

    private boolean wall(int w) {
        return w >= 0 && w < now.walls.size();
    }

    private static int bits(int below, IntPredicate in) {
        return IntStream.range(0, below).filter(in).map(i -> 1 << i).sum();
    }

    private static int first(int from, int to, IntPredicate so) {
        return IntStream.rangeClosed(from, to).filter(so).findFirst().orElse(-9);
    }

    /** Of candidates in their order the first with the least number. */
    private static int least(List<Integer> candidates, IntUnaryOperator number) {
        int found = -9;
        for (int one : candidates) {
            if (found == -9 || number.applyAsInt(one) < number.applyAsInt(found)) {
                found = one;
            }
        }
        return found;
    }

    int letter(int c) {
        if (c < 0) {
            return no(-4);
        }
        if (c > 255 || letters.length() == 96) {
            return no(-6);
        }
        letters += (char) c;
        return letters.length();
    }

    int street() {
        String text = letters;
        letters = "";
        for (int p = 0; p < text.length(); p++) {
            Matcher m = STREET.matcher(text.substring(0, p + 1));
            if (!m.matches() && !m.hitEnd()) {
                return -1000 - p;
            }
        }
        if (!STREET.matcher(text).matches()) {
            return -1000 - text.length();
        }
        World w = now.copy();
        int place = 0;
        int told = 0;
        for (String one : text.split(";")) {
            if (!tell(w, one)) {
                return -2000 - place;
            }
            place += one.length() + 1;
            told++;
        }
        now = w;
        return told;
    }

    private boolean tell(World w, String one) {
        int a = one.charAt(1) - '0';
        int b = one.charAt(2) - '0';
        switch (one.charAt(0)) {
            case 'w': {
                int owner = one.charAt(3) - '0';
                w.walls.add(new Wall("wobplf".indexOf(one.charAt(1)), b, owner));
                return owner < 8 && w.walls.size() < 8;
            }
            case 'm':
            case 's':
                if (a >= w.walls.size() || b > 7) {
                    return false;
                }
                if (one.charAt(0) == 'm') {
                    w.walls.get(a).at = b;
                } else {
                    w.walls.get(a).owner = b;
                }
                return true;
            case 'n':
                if (a > 7) {
                    return false;
                }
                for (int part = 0; part < 6; part++) {
                    w.needs[a][part] = one.charAt(2 + part) - '0';
                }
                return true;
            case 'b':
                if (a > 7 || b > 7 || a == b) {
                    return false;
                }
                w.bars[a][b] = !w.bars[a][b];
                return true;
            default:
                int n = Integer.parseInt(one.substring(1));
                if (n < 1 || n > 60 || w.hour + n > 999) {
                    return false;
                }
                for (int i = 0; i < n; i++) {
                    w.hour();
                }
                return true;
        }
    }

    int wall(int wall, int what) {
        if (!wall(wall)) {
            return no(-1);
        }
        if (what < 0 || what > 5) {
            return no(-2);
        }
        Wall w = now.walls.get(wall);
        return new int[] {w.kind, w.figure, w.owner, w.at, w.holes, w.covers(now.hour % 6)}[what];
    }

    int house(int house, int what) {
        if (!house(house)) {
            return no(-1);
        }
        if (what < 0 || what > 5) {
            return no(-2);
        }
        int count = now.walls.size();
        return new int[] {now.needs[house][now.hour % 6], now.has(house), now.lacks(house),
            bits(count, w -> now.walls.get(w).at == house), bits(count, w -> now.walls.get(w).owner == house),
            bits(8, h -> now.bars[house][h])}[what];
    }

    int takes(int wall, int house) {
        if (!wall(wall) || !house(house)) {
            return no(-1);
        }
        int was = now.walls.get(wall).at;
        now.walls.get(wall).at = house;
        return was;
    }

    int sells(int wall, int house) {
        if (!wall(wall) || !house(house)) {
            return no(-1);
        }
        int was = now.walls.get(wall).owner;
        now.walls.get(wall).owner = house;
        return was;
    }

    int needs(int house, int part, int v) {
        if (!house(house)) {
            return no(-1);
        }
        if (part < 0 || part > 5) {
            return no(-2);
        }
        if (v < 0 || v > 9) {
            return no(v < 0 ? -4 : -6);
        }
        int was = now.needs[house][part];
        now.needs[house][part] = v;
        return was;
    }

    int bars(int a, int b) {
        if (!house(a) || !house(b) || a == b) {
            return no(-1);
        }
        now.bars[a][b] = !now.bars[a][b];
        return now.bars[a][b] ? 1 : 0;
    }

    int turn(int wall, int kind, int figure) {
        if (!wall(wall)) {
            return no(-1);
        }
        if (kind < 0 || kind > 5) {
            return no(-2);
        }
        if (figure < 0 || figure > 9) {
            return no(figure < 0 ? -4 : -6);
        }
        Wall w = now.walls.get(wall);
        int was = w.kind * 10 + w.figure;
        w.kind = kind;
        w.figure = figure;
        return was;
    }

    int hours(int n) {
        if (n < 1) {
            return no(-4);
        }
        if (n > 60 || now.hour + n > 999) {
            return no(-6);
        }
        now = now.later(n);
        return now.allLack();
    }

    private int then(boolean somebody, int n, int most, ToIntFunction<World> question) {
        if (!somebody) {
            return no(-1);
        }
        if (n < 0 || n > most) {
            return no(n < 0 ? -4 : -6);
        }
        return question.applyAsInt(now);
    }

    int atThen(int wall, int n) {
        return then(wall(wall), n, 60, w -> w.later(n).walls.get(wall).at);
    }

    int lacksThen(int house, int n) {
        return then(house(house), n, 60, w -> w.later(n).lacks(house));
    }

    int allLack(int n) {
        return then(true, n, 60, w -> w.later(n).allLack());
    }

    int goes(int wall, int what) {
        if (!wall(wall)) {
            return no(-1);
        }
        if (what < 0 || what > 1) {
            return no(-2);
        }
        List<Wall> walls = IntStream.rangeClosed(0, 60).mapToObj(n -> now.later(n).walls.get(wall)).toList();
        return what == 0 ? first(0, 60, n -> walls.get(n).at == walls.get(n).owner)
            : first(1, 60, n -> walls.get(n).at != walls.get(0).at);
    }

    int shown(int house) {
        return house(house) ? first(0, 60, n -> now.later(n).lacks(house) > 0) : no(-1);
    }

    int asked() {
        return now.walls.isEmpty() ? -9 : first(0, 60, n -> now.later(n).walls.stream().allMatch(w -> w.at != w.owner));
    }

    int coughs(int a, int b, int n) {
        return then(house(a) && house(b) && a != b, n, 60, w -> {
            World mind = w.copy();
            mind.watched = new int[] {a, b};
            for (int i = 0; i < n; i++) {
                mind.hour();
            }
            return mind.goings;
        });
    }

    private World lent(int wallAndHouse) {
        World w = now.copy();
        w.walls.get(wallAndHouse / 10).at = wallAndHouse % 10;
        return w;
    }

    int lend(int n) {
        return then(true, n, 12, w -> {
            List<Integer> pairs = IntStream.range(0, 80).filter(p -> p % 10 < 8 && wall(p / 10)).boxed().toList();
            int found = least(pairs, p -> lent(p).later(n).allLack());
            return found != -9 && lent(found).later(n).allLack() < now.later(n).allLack() ? found : -9;
        });
    }

    int close(int house, int what) {
        if (!house(house)) {
            return no(-1);
        }
        if (what < 0 || what > 1) {
            return no(-2);
        }
        IntUnaryOperator steps = bits -> IntStream.range(0, now.walls.size()).filter(w -> (bits >> w & 1) == 1)
            .map(w -> Math.abs(now.walls.get(w).at - house)).sum();
        List<Integer> ways = new ArrayList<>();
        for (int bits = 0; bits < 1 << now.walls.size(); bits++) {
            World mind = now.copy();
            boolean fits = true;
            for (int w = 0; w < mind.walls.size(); w++) {
                if ((bits >> w & 1) == 1) {
                    fits &= mind.walls.get(w).at != house;
                    mind.walls.get(w).at = house;
                }
            }
            if (fits && mind.lacks(house) == 0) {
                ways.add(bits);
            }
        }
        int found = least(ways, steps);
        return found == -9 || what == 0 ? found : steps.applyAsInt(found);
    }

    private int bestCode = -9;
    private int bestSteps = -9;

    int split(int a, int b, int what) {
        if (!house(a) || !house(b) || a == b) {
            return no(-1);
        }
        if (what < 0 || what > 2) {
            return no(-2);
        }
        bestCode = -9;
        bestSteps = -9;
        splitOn(now.copy(), a, b, now.walls.size() - 1, 0, 0);
        int code = bestCode;
        if (what == 0 || code == -9) {
            return bestSteps;
        }
        return bits(now.walls.size(), w -> code / (int) Math.pow(3, w) % 3 == what);
    }

    private void splitOn(World w, int a, int b, int wall, int code, int steps) {
        if (wall < 0) {
            boolean better = bestCode == -9 || steps < bestSteps || steps == bestSteps && code < bestCode;
            if (better && w.lacks(a) == 0 && w.lacks(b) == 0) {
                bestCode = code;
                bestSteps = steps;
            }
            return;
        }
        int was = w.walls.get(wall).at;
        int[] to = {was, a, b};
        for (int digit = 0; digit < 3; digit++) {
            w.walls.get(wall).at = to[digit];
            splitOn(w, a, b, wall - 1, code * 3 + digit, steps + Math.abs(was - to[digit]));
        }
        w.walls.get(wall).at = was;
    }

    int spare() {
        return bits(now.walls.size(), w -> now.lacksWithout(now.walls.get(w)) == now.lacks(now.walls.get(w).at));
    }

    int price(int wall, int what) {
        if (!wall(wall)) {
            return no(-1);
        }
        if (what < 0 || what > 1) {
            return no(-2);
        }
        Wall w = now.walls.get(wall);
        IntUnaryOperator gives = h -> Math.max(0,
            Math.min(now.lacks(h), w.covers(now.hour % 6)) - Math.abs(h - w.at));
        List<Integer> houses = new ArrayList<>(List.of(0, 1, 2, 3, 4, 5, 6, 7));
        houses.sort(Comparator.comparing((Integer h) -> -gives.applyAsInt(h)).thenComparing(h -> h));
        boolean sold = gives.applyAsInt(houses.get(0)) > 0;
        return what == 0 ? sold ? houses.get(0) : -9 : sold ? gives.applyAsInt(houses.get(1)) : 0;
    }

    int shares(int a, int b) {
        if (!house(a) || !house(b) || a == b) {
            return no(-1);
        }
        int count = now.walls.size();
        int[][] worth = new int[1 << count][2];
        for (int bits = 0; bits < 1 << count; bits++) {
            for (int w = 0; w < count; w++) {
                if ((bits >> w & 1) == 1) {
                    int plain = now.walls.get(w).covers(now.hour % 6) + 8;
                    worth[bits][0] += plain - Math.abs(now.walls.get(w).owner - a);
                    worth[bits][1] += plain - Math.abs(now.walls.get(w).owner - b);
                }
            }
        }
        int all = (1 << count) - 1;
        List<Integer> fair = IntStream.rangeClosed(0, all).filter(s -> worth[s][0] >= worth[all - s][0]
            && worth[all - s][1] >= worth[s][1]).boxed().toList();
        return least(fair, s -> -worth[s][0] - worth[all - s][1]);
    }

    int coldest(int what) {
        if (what < 0 || what > 1) {
            return no(-2);
        }
        IntUnaryOperator sum = part -> IntStream.range(0, 8).map(h -> now.needs[h][part]).sum();
        int part = least(List.of(0, 1, 2, 3, 4, 5), p -> -sum.applyAsInt(p));
        return what == 0 ? part : sum.applyAsInt(part);
    }

    int best(int what) {
        int count = now.walls.size();
        int part = now.hour % 6;
        int found = least(IntStream.range(0, count).boxed().toList(), w -> -now.walls.get(w).covers(part));
        switch (what) {
            case 0:
                return found;
            case 1:
                return found == -9 ? -9 : now.walls.get(found).at;
            case 2:
                return bits(count, w -> now.walls.get(w).at != now.walls.get(w).owner);
            case 3:
                return bits(8, h -> now.lacks(h) > 0);
            case 4:
                return bits(count, w -> now.walls.get(w).kind == 1 && part == 5);
            default:
                return no(-2);
        }
    }

    int each(int house) {
        if (!house(house)) {
            return no(-1);
        }
        int count = (int) now.walls.stream().filter(w -> w.at == house).count();
        return count == 0 ? no(-3) : (int) Math.floor((double) now.has(house) / count);
    }

    int panes(int wall) {
        if (!wall(wall)) {
            return no(-1);
        }
        int kind = now.walls.get(wall).kind;
        int ofPane = now.walls.get(wall).figure / 2 + 1;
        return kind == 3 ? ofPane : kind == 5 ? ofPane + 3 : no(-3);
    }

    private boolean looks(int one, int other) {
        return one != other && now.lacks(other) > 0
            && now.walls.stream().noneMatch(w -> (w.at - one) * (w.at - other) < 0);
    }

    int sees(int house) {
        return house(house) ? bits(8, h -> looks(h, house)) : no(-1);
    }

    int hide(int a, int b) {
        if (!house(a) || !house(b) || a == b) {
            return no(-1);
        }
        if (!looks(a, b)) {
            return no(-3);
        }
        List<Integer> pairs = IntStream.range(0, 80)
            .filter(p -> p % 10 < 8 && wall(p / 10) && (p % 10 - a) * (p % 10 - b) < 0).boxed().toList();
        return least(pairs, p -> Math.abs(now.walls.get(p / 10).at - p % 10));
    }

    int two(int a, int b, int n) {
        return then(wall(a) && wall(b) && a != b, n, 30, w -> {
            int[][][] lacking = new int[2][2][];
            for (int i = 0; i < 2; i++) {
                for (int j = 0; j < 2; j++) {
                    World mind = now.copy();
                    Wall first = mind.walls.get(a);
                    Wall second = mind.walls.get(b);
                    first.at = i == 1 ? first.owner : first.at;
                    second.at = j == 1 ? second.owner : second.at;
                    mind = mind.later(n);
                    lacking[i][j] = new int[] {mind.lacks(first.owner), mind.lacks(second.owner)};
                }
            }
            for (int i = 0; i < 2; i++) {
                for (int j = 0; j < 2; j++) {
                    if (lacking[1 - i][j][0] >= lacking[i][j][0] && lacking[i][1 - j][1] >= lacking[i][j][1]) {
                        return 10 * i + j;
                    }
                }
            }
            return -9;
        });
    }

    long ways(int wall, int house, int n) {
        if (!wall(wall) || !house(house)) {
            return noLong(-1);
        }
        if (n < 0 || n > 20) {
            return noLong(n < 0 ? -4 : -6);
        }
        Wall w = now.walls.get(wall);
        return waysFrom(w, w.at, house, n, new TreeMap<>());
    }

    private long waysFrom(Wall wall, int at, int house, int n, Map<Integer, Long> known) {
        if (n == 0) {
            return at == house ? 1 : 0;
        }
        Long before = known.get(n * 8 + at);
        if (before != null) {
            return before;
        }
        long sum = 0;
        for (int to = 0; to < 8; to++) {
            if (now.canGo(wall, at, to)) {
                sum += waysFrom(wall, to, house, n - 1, known);
            }
        }
        known.put(n * 8 + at, sum);
        return sum;
    }

    private static long fraction(BigInteger above, BigInteger below, int part) {
        BigInteger common = above.gcd(below);
        if (above.signum() == 0) {
            return part;
        }
        return (part == 0 ? above : below).divide(common).longValueExact();
    }

    long rain(int house, int n, int t, int part) {
        if (!house(house)) {
            return noLong(-1);
        }
        if (n < 0 || t < 2) {
            return noLong(-4);
        }
        if (n > 6 || t > 20) {
            return noLong(-6);
        }
        if (part < 0 || part > 1) {
            return noLong(-2);
        }
        return fraction(rainOn(now, house, n, t), BigInteger.valueOf(t).pow(n), part);
    }

    private BigInteger rainOn(World w, int house, int n, int t) {
        if (n == 0) {
            return w.lacks(house) > 0 ? BigInteger.ONE : BigInteger.ZERO;
        }
        World wet = w.copy();
        wet.rain = 2;
        wet.hour();
        return rainOn(wet, house, n - 1, t).add(rainOn(w.later(1), house, n - 1, t).multiply(BigInteger.valueOf(t - 1)));
    }

    long mean(int part) {
        if (part < 0 || part > 1) {
            return noLong(-2);
        }
        long seen = IntStream.range(0, 8).filter(h -> now.lacks(h) > 0).count();
        return fraction(BigInteger.valueOf(now.allLack()), BigInteger.valueOf(seen), part);
    }

    private boolean was(int house, int hour) {
        return now.seen.containsKey(hour) && now.seen.get(hour).contains(house);
    }

    int wasSeen(int house, int from, int to) {
        if (!house(house)) {
            return no(-1);
        }
        if (from < 0 || to < 0) {
            return no(-4);
        }
        if (from > 999 || to > 999) {
            return no(-6);
        }
        return from > to ? no(-3) : (int) IntStream.rangeClosed(from, to).filter(at -> was(house, at)).count();
    }

    int longest(int house) {
        if (!house(house)) {
            return no(-1);
        }
        StringBuilder told = new StringBuilder();
        for (int at = 0; at <= 999; at++) {
            told.append(was(house, at) ? 'x' : ' ');
        }
        int most = 0;
        for (String run : told.toString().split(" ")) {
            most = Math.max(most, run.length());
        }
        return most;
    }

    int together(int a, int b, int what) {
        if (!house(a) || !house(b) || a == b) {
            return no(-1);
        }
        if (what < 0 || what > 2) {
            return no(-2);
        }
        return (int) IntStream.rangeClosed(0, 999).filter(at -> what == 0 ? was(a, at) && was(b, at)
            : what == 1 ? was(a, at) || was(b, at) : was(a, at) != was(b, at)).count();
    }

    int whatIs(int wall, int what) {
        if (!wall(wall)) {
            return no(-1);
        }
        if (what < 0 || what > 1) {
            return no(-2);
        }
        return bits(what == 0 ? 6 : 10, v -> {
            World mind = now.copy();
            if (what == 0) {
                mind.walls.get(wall).kind = v;
            } else {
                mind.walls.get(wall).figure = v;
            }
            return IntStream.range(0, row.size()).allMatch(n -> mind.later(n).walls.get(wall).at == row.get(n));
        });
    }

    int row(int v) {
        if (v < 0) {
            return no(-4);
        }
        if (v > 99 || row.size() == 16) {
            return no(-6);
        }
        row.add(v);
        return row.size();
    }

    int judge() {
        List<Integer> judged = row;
        row = new ArrayList<>();
        return first(0, judged.size() - 1, n -> now.later(n).allLack() != judged.get(n));
    }

    int clear() {
        int had = row.size();
        row.clear();
        return had;
    }

    int lots(int n, int z, int what) {
        if (n < 1 || n > 20) {
            return no(n < 1 ? -4 : -6);
        }
        if (what < 0 || what > 1) {
            return no(-2);
        }
        long seed = Integer.toUnsignedLong(z);
        int sum = 0;
        for (int i = 0; i < n; i++) {
            World w = now.copy();
            for (Wall wall : w.walls) {
                seed = (seed * 1664525 + 1013904223) % (1L << 32);
                wall.at = (int) (seed % (1L << 31) / 256 % 8);
            }
            World end = w.later(6);
            sum += what == 0 ? end.allLack() : (int) IntStream.range(0, 8).filter(h -> end.lacks(h) > 0).count();
        }
        return sum;
    }

    int image() {
        kept = now.copy();
        return now.hour;
    }

    int on() {
        if (kept == null) {
            return no(-3);
        }
        now = kept.copy();
        return now.hour;
    }

    int count(int what) {
        switch (what) {
            case 0:
                return now.walls.size();
            case 1:
                return now.hour;
            case 2:
                return now.allLack();
            case 3:
                return bits(8, h -> now.lacks(h) > 0);
            case 4:
                return bits(now.walls.size(), w -> now.walls.get(w).at != now.walls.get(w).owner);
            case 5:
                return now.walls.stream().mapToInt(w -> w.holes).sum();
            case 6:
                return row.size();
            case 7:
                return letters.length();
            default:
                return what > 10 && what < 17 ? refused[what - 10] : -9;
        }
    }
}
