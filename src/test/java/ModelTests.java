import java.util.ArrayList;
import java.util.Arrays;
import java.util.List;
import java.util.Random;

/**
 * Random runs of calls on LentGallery and on a slow model that lives every day, tries every home and
 * walks every tenant: each answer, and a digest behind many of them, must be alike.
 */
public final class ModelTests {
    private static final int NONE = -1, UNKNOWN = -101, OUTSIDE = -102, STATE = -103, FULL = -104;
    private static final int RUNS = 250;
    private static final int CALLS = 400;
    private static int wrong = 0;

    public static void main(String[] args) {
        for (int run = 0; run < RUNS && wrong < 20; run++) {
            oneRun(run);
        }
        for (int run = 0; run < 30 && wrong < 20; run++) {
            propsByTryingAll(run);
        }
        System.out.println(wrong == 0 ? "all answers are as the model's" : wrong + " answers are not as the model's");
        if (wrong != 0) {
            System.exit(1);
        }
    }

    private static void oneRun(int run) {
        Random random = new Random(run);
        LentGallery real = new LentGallery();
        Model model = new Model();
        StringBuilder told = new StringBuilder();
        int readAgain = 1 + random.nextInt(250);
        for (int call = 0; call < CALLS && wrong < 20; call++) {
            if (call % readAgain == 10 || (call == 0 && random.nextInt(5) > 0)) {
                readGallery(random, real, model, told);
            }
            oneCall(random, real, model, told);
            if (random.nextInt(8) == 0) {
                due(told, "digest()", real.digest(), model.digest());
            }
        }
    }

    private static void readGallery(Random random, LentGallery real, Model model, StringBuilder told) {
        due(told, "blank()", real.blank(), model.blank());
        StringBuilder text = new StringBuilder();
        int strongest = 2 + random.nextInt(8);
        for (int i = 0; i < 6; i++) {
            boolean fallen = random.nextInt(9) == 0;
            text.append(fallen ? 0 : 1 + random.nextInt(strongest));
        }
        text.append(';').append(random.nextInt(10)).append(1 + random.nextInt(random.nextBoolean() ? 9 : 2));
        for (char c : text.toString().toCharArray()) {
            due(told, "letter(" + (int) c + ")", real.letter(c), model.letter(c));
        }
        due(told, "gallery()", real.gallery(), model.gallery());
        for (int i = random.nextInt(6); i > 0; i--) {
            int kind = random.nextInt(5);
            int place = random.nextInt(6);
            due(told, "tenant(" + kind + "," + place + ")", real.tenant(kind, place), model.tenant(kind, place));
        }
    }

    private static int number(Random random, int below) {
        if (random.nextInt(25) == 0) {
            int[] odd = {-1, below, below + 1, Integer.MIN_VALUE, Integer.MAX_VALUE, -2, 99};
            return odd[random.nextInt(odd.length)];
        }
        return random.nextInt(below);
    }

    private static void oneCall(Random random, LentGallery real, Model model, StringBuilder told) {
        switch (random.nextInt(24)) {
            case 0: {
                String good = "0123456789;;;;";
                int code = random.nextInt(3) > 0 ? good.charAt(random.nextInt(good.length())) : number(random, 127);
                due(told, "letter(" + code + ")", real.letter(code), model.letter(code));
                break;
            }
            case 1:
                if (random.nextInt(6) == 0) {
                    due(told, "blank()", real.blank(), model.blank());
                }
                break;
            case 2: due(told, "fault()", real.fault(), model.fault()); break;
            case 3: due(told, "gallery()", real.gallery(), model.gallery()); break;
            case 4: case 5: case 6: {
                int p = number(random, 6);
                int what = number(random, 6);
                due(told, "place(" + p + "," + what + ")", real.place(p, what), model.place(p, what));
                break;
            }
            case 7: {
                int p = number(random, 6);
                due(told, "prop(" + p + ")", real.prop(p), model.prop(p));
                break;
            }
            case 8: {
                int kind = number(random, 5);
                int p = number(random, 6);
                due(told, "tenant(" + kind + "," + p + ")", real.tenant(kind, p), model.tenant(kind, p));
                break;
            }
            case 9: case 10: {
                int t = number(random, 5);
                int what = number(random, 6);
                due(told, "about(" + t + "," + what + ")", real.about(t, what), model.about(t, what));
                break;
            }
            case 11: {
                int t = number(random, 5);
                int kind = number(random, 5);
                due(told, "as(" + t + "," + kind + ")", real.as(t, kind), model.as(t, kind));
                break;
            }
            case 12: case 13: {
                int t = number(random, 5);
                int p = number(random, 6);
                due(told, "move(" + t + "," + p + ")", real.move(t, p), model.move(t, p));
                break;
            }
            case 14:
                if (random.nextInt(4) == 0) {
                    due(told, "day()", real.day(), model.day());
                }
                break;
            case 15: due(told, "holds()", real.holds(), model.holds()); break;
            case 16: {
                if (random.nextInt(4) == 0) {
                    int what = random.nextBoolean() ? 0 : 9 + number(random, 7);
                    due(told, "where(" + what + ")", real.where(what), model.where(what));
                }
                break;
            }
            case 17: {
                int days = number(random, 21);
                int what = random.nextBoolean() ? 0 : 9 + number(random, 8);
                due(told, "props(" + days + "," + what + ")", real.props(days, what), model.props(days, what));
                break;
            }
            case 18: due(told, "out()", real.out(), model.out()); break;
            case 19: case 20: {
                int p = number(random, 6);
                int days = random.nextBoolean() ? number(random, 21) : number(random, 6);
                boolean stood = random.nextBoolean();
                if (random.nextInt(4) > 0 && p >= 0 && p < 6 && days >= 0 && days <= 20) {
                    stood = model.standsBehind(p, days);
                }
                due(told, "knock(" + p + "," + days + "," + stood + ")", real.knock(p, days, stood), model.knock(p, days, stood));
                break;
            }
            case 21: {
                if (random.nextInt(3) == 0) {
                    due(told, "forget()", real.forget(), model.forget());
                }
                break;
            }
            case 22: {
                int days = random.nextInt(10) == 0 ? number(random, 61) : 1 + number(random, 60);
                int seed = random.nextBoolean() ? random.nextInt() : random.nextInt(Integer.MAX_VALUE);
                int what = number(random, 3);
                due(told, "years(" + days + "," + seed + "," + what + ")", real.years(days, seed, what), model.years(days, seed, what));
                break;
            }
            default: {
                int what = number(random, 13);
                due(told, "count(" + what + ")", real.count(what), model.count(what));
                if (random.nextInt(4) == 0) {
                    due(told, "image()", real.image(), model.image());
                } else if (random.nextInt(3) == 0) {
                    due(told, "restore()", real.restore(), model.restore());
                }
            }
        }
    }

    private static void due(StringBuilder told, String call, long got, long want) {
        told.append(call).append(' ');
        if (got != want) {
            wrong++;
            System.out.println("behind " + told + ": answered " + got + ", due is " + want);
        }
    }

    /** PROPS against every way to set up to six in each place. */
    private static void propsByTryingAll(int run) {
        Random random = new Random(7000 + run);
        LentGallery real = new LentGallery();
        Model model = new Model();
        StringBuilder told = new StringBuilder();
        readGallery(random, real, model, told);
        int days = 1 + random.nextInt(6);
        int fewest = Integer.MAX_VALUE;
        int[] best = null;
        for (int code = 0; code < 117649; code++) {
            int[] set = new int[6];
            int sum = 0;
            Model trial = model.twin();
            boolean fine = true;
            for (int p = 0, rest = code; p < 6; p++, rest /= 7) {
                set[p] = rest % 7;
                sum += set[p];
                fine &= set[p] == 0 || (trial.strong[p] > 0 && trial.strong[p] + 3 * set[p] <= 20);
                trial.strong[p] += 3 * set[p];
            }
            if (!fine || sum >= fewest) {
                continue;
            }
            int falls = 0;
            for (int d = 0; d < days; d++) {
                falls += trial.oneDay();
            }
            if (falls == 0) {
                fewest = sum;
                best = set;
            }
        }
        due(told, "props(" + days + ",0)", real.props(days, 0), best == null ? NONE : fewest);
        for (int p = 0; p < 6; p++) {
            due(told, "props(" + days + "," + (10 + p) + ")", real.props(days, 10 + p), best == null ? NONE : best[p]);
        }
    }

    private enum Kind {
        TENANT(1, 1), SCHOOL(2, 3), COUPLE(0, 1), BAKER(1, 2), CHAPEL(4, 3);

        final int weight;
        final int breath;

        Kind(int weight, int breath) {
            this.weight = weight;
            this.breath = breath;
        }
    }

    private record Lodger(Kind kind, int place) { }

    private record Knock(int place, int days, boolean stood) { }

    private static final class Model {
        String page = "";
        boolean open = false;
        int[] strong = new int[6];
        int air = 0;
        int cage = 0;
        List<Lodger> lodgers = new ArrayList<>();
        List<Knock> knocks = new ArrayList<>();
        int days = 0;
        int falls = 0;
        int props = 0;
        int read = 0;
        int whereDone = 0;
        Model kept = null;

        Model twin() {
            Model m = new Model();
            m.open = open;
            m.take(this);
            m.air = air;
            m.cage = cage;
            return m;
        }

        void take(Model other) {
            strong = other.strong.clone();
            lodgers = new ArrayList<>(other.lodgers);
            knocks = new ArrayList<>(other.knocks);
            days = other.days;
            falls = other.falls;
            props = other.props;
        }

        int letter(int code) {
            if (code < 1 || code > 126) {
                return OUTSIDE;
            }
            if (page.length() == 12) {
                return FULL;
            }
            page += (char) code;
            return page.length();
        }

        int blank() {
            int n = page.length();
            page = "";
            return n;
        }

        int fault() {
            for (int n = page.length(); n > 0; n--) {
                String head = page.substring(0, n);
                if (n <= 9 && (head + "000000;01".substring(n)).matches("[0-9]{6};[0-9][1-9]")) {
                    return n;
                }
            }
            return 0;
        }

        int gallery() {
            if (!page.matches("[0-9]{6};[0-9][1-9]")) {
                return STATE;
            }
            for (int p = 0; p < 6; p++) {
                strong[p] = page.charAt(p) - '0';
            }
            air = page.charAt(7) - '0';
            cage = page.charAt(8) - '0';
            open = true;
            lodgers.clear();
            knocks.clear();
            days = falls = props = 0;
            kept = null;
            page = "";
            read++;
            return count(0);
        }

        boolean noPlace(int p) {
            return !open || p < 0 || p > 5;
        }

        boolean noLodger(int t) {
            return t < 0 || t >= lodgers.size();
        }

        int weightIn(int p) {
            return lodgers.stream().filter(l -> l.place() == p).mapToInt(l -> l.kind().weight).sum();
        }

        int oneDay() {
            int[] was = strong.clone();
            int fell = 0;
            for (int p = 0; p < 6; p++) {
                if (was[p] == 0) {
                    continue;
                }
                int next = was[p] - weightIn(p);
                if (Arrays.stream(new int[] {p - 1, p + 1}).anyMatch(q -> q >= 0 && q < 6 && was[q] == 0)) {
                    next--;
                }
                strong[p] = next < 0 ? 0 : next;
                if (strong[p] == 0) {
                    fell++;
                }
            }
            days++;
            falls += fell;
            return fell;
        }

        boolean standsBehind(int p, int n) {
            Model m = twin();
            for (int d = 0; d < n; d++) {
                m.oneDay();
            }
            return m.strong[p] > 0;
        }

        int strongBits(int p) {
            int bits = 0;
            for (int s = 0; s <= 9; s++) {
                Model m = twin();
                m.strong[p] = s;
                boolean all = true;
                for (Knock k : knocks) {
                    all &= m.standsBehind(k.place(), k.days()) == k.stood();
                }
                if (all) {
                    bits += 1 << s;
                }
            }
            return bits;
        }

        int knockDay(int p) {
            int bits = strongBits(p);
            int best = NONE;
            int fewest = 99;
            for (int d = 10; d >= 1 && bits != 0; d--) {
                int[] left = new int[2];
                for (int s = 0; s <= 9; s++) {
                    if ((bits & 1 << s) != 0) {
                        Model m = twin();
                        m.strong[p] = s;
                        left[m.standsBehind(p, d) ? 1 : 0]++;
                    }
                }
                if (Math.max(left[0], left[1]) <= fewest) {
                    fewest = Math.max(left[0], left[1]);
                    best = d;
                }
            }
            return best;
        }

        int place(int p, int what) {
            if (noPlace(p)) {
                return UNKNOWN;
            }
            if (what == 0) {
                return strong[p];
            } else if (what == 1) {
                return weightIn(p);
            } else if (what == 2) {
                int bits = 0;
                for (int t = 0; t < lodgers.size(); t++) {
                    bits += lodgers.get(t).place() == p ? 1 << t : 0;
                }
                return bits;
            } else if (what == 3) {
                Model m = twin();
                m.oneDay();
                return strong[p] - m.strong[p];
            } else if (what == 4) {
                return strongBits(p);
            }
            return what == 5 ? knockDay(p) : OUTSIDE;
        }

        int prop(int p) {
            if (noPlace(p)) {
                return UNKNOWN;
            }
            if (strong[p] == 0 || strong[p] > 17) {
                return STATE;
            }
            props++;
            return strong[p] += 3;
        }

        int tenant(int kind, int p) {
            if (kind < 0 || kind > 4) {
                return OUTSIDE;
            }
            if (noPlace(p)) {
                return UNKNOWN;
            }
            if (strong[p] == 0) {
                return STATE;
            }
            if (lodgers.size() == 5) {
                return FULL;
            }
            lodgers.add(new Lodger(Kind.values()[kind], p));
            return lodgers.size() - 1;
        }

        boolean cutOff(int t) {
            for (int p = lodgers.get(t).place(); p >= 0; p--) {
                if (strong[p] == 0) {
                    return true;
                }
            }
            return false;
        }

        boolean gasps(int t) {
            List<Integer> order = new ArrayList<>();
            for (int i = 0; i < lodgers.size(); i++) {
                order.add(i);
            }
            order.sort((a, b) -> lodgers.get(a).place() * 10 + a - lodgers.get(b).place() * 10 - b);
            int left = air;
            for (int i : order) {
                boolean gets = !cutOff(i) && lodgers.get(i).kind().breath <= left;
                if (i == t) {
                    return !gets;
                }
                left -= gets ? lodgers.get(i).kind().breath : 0;
            }
            return false;
        }

        int about(int t, int what) {
            if (noLodger(t)) {
                return UNKNOWN;
            }
            Lodger l = lodgers.get(t);
            return switch (what) {
                case 0 -> l.kind().ordinal();
                case 1 -> l.place();
                case 2 -> l.kind().weight;
                case 3 -> l.kind().breath;
                case 4 -> cutOff(t) ? 1 : 0;
                case 5 -> gasps(t) ? 1 : 0;
                default -> OUTSIDE;
            };
        }

        int as(int t, int kind) {
            if (noLodger(t)) {
                return UNKNOWN;
            }
            if (kind < 0 || kind > 4) {
                return OUTSIDE;
            }
            String[] such = {"0", "01", "02", "03", "014"};
            return such[lodgers.get(t).kind().ordinal()].indexOf('0' + kind) >= 0 ? t : NONE;
        }

        int move(int t, int p) {
            if (noLodger(t) || noPlace(p)) {
                return UNKNOWN;
            }
            if (strong[p] == 0 || cutOff(t)) {
                return STATE;
            }
            Lodger was = lodgers.set(t, new Lodger(lodgers.get(t).kind(), p));
            return was.place();
        }

        int day() {
            return open ? oneDay() : STATE;
        }

        int holds() {
            if (!open) {
                return STATE;
            }
            Model m = twin();
            for (int d = 1; d <= 40; d++) {
                if (m.oneDay() > 0) {
                    return d;
                }
            }
            return NONE;
        }

        int where(int what) {
            if (what != 0 && (what < 10 || what > 14)) {
                return OUTSIDE;
            }
            if (!open || whereDone == 12) {
                return STATE;
            }
            whereDone++;
            int n = lodgers.size();
            int best = -5;
            int[] homes = null;
            int all = (int) Math.pow(6, n);
            for (int code = 0; code < all; code++) {
                int[] at = new int[n];
                boolean fine = true;
                for (int t = n - 1, rest = code; t >= 0; t--, rest /= 6) {
                    at[t] = rest % 6;
                    fine &= strong[at[t]] > 0;
                }
                if (!fine) {
                    continue;
                }
                int hold = quickHold(at);
                if (hold > best) {
                    best = hold;
                    homes = at;
                }
            }
            if (homes == null) {
                return NONE;
            }
            if (what == 0) {
                return best == 1000 ? NONE : best;
            }
            return what - 10 < n ? homes[what - 10] : NONE;
        }

        /** The days until a first fall, lived one by one, with the tenants at these homes; 1000 if there is none. */
        int quickHold(int[] at) {
            int[] weight = new int[6];
            for (int t = 0; t < at.length; t++) {
                weight[at[t]] += lodgers.get(t).kind().weight;
            }
            int[] now = strong.clone();
            for (int d = 1; d <= 40; d++) {
                for (int p = 0; p < 6; p++) {
                    boolean beside = (p > 0 && strong[p - 1] == 0) || (p < 5 && strong[p + 1] == 0);
                    now[p] -= weight[p] + (beside ? 1 : 0);
                    if (strong[p] > 0 && now[p] <= 0) {
                        return d;
                    }
                }
            }
            return 1000;
        }

        /** A place that falls first must have one more prop; so on until none falls, or one is too strong. */
        int props(int n, int what) {
            if (n < 1 || n > 20 || (what != 0 && (what < 10 || what > 15))) {
                return OUTSIDE;
            }
            if (!open) {
                return STATE;
            }
            int[] set = new int[6];
            while (true) {
                Model m = twin();
                for (int p = 0; p < 6; p++) {
                    m.strong[p] += 3 * set[p];
                    if (m.strong[p] > 20) {
                        return NONE;
                    }
                }
                int[] ahead = m.strong.clone();
                int fell = 0;
                for (int d = 0; d < n && fell == 0; d++) {
                    fell = m.oneDay();
                }
                if (fell == 0) {
                    return what == 0 ? Arrays.stream(set).sum() : set[what - 10];
                }
                for (int p = 0; p < 6; p++) {
                    set[p] += ahead[p] > 0 && m.strong[p] == 0 ? 1 : 0;
                }
            }
        }

        int out() {
            if (!open) {
                return STATE;
            }
            List<Integer> walking = new ArrayList<>();
            for (int t = 0; t < lodgers.size(); t++) {
                if (!cutOff(t)) {
                    walking.add(lodgers.get(t).place());
                }
            }
            int atShaft = 0;
            int minute = 0;
            while (!walking.isEmpty() || atShaft > 0) {
                minute++;
                for (int i = 0; i < cage && atShaft > 0; i++) {
                    atShaft--;
                }
                List<Integer> next = new ArrayList<>();
                for (int p : walking) {
                    if (p == 0) {
                        atShaft++;
                    } else {
                        next.add(p - 1);
                    }
                }
                walking = next;
            }
            return minute;
        }

        int knock(int p, int n, boolean stood) {
            if (noPlace(p)) {
                return UNKNOWN;
            }
            if (n < 0 || n > 20) {
                return OUTSIDE;
            }
            if (knocks.size() == 8) {
                return FULL;
            }
            knocks.add(new Knock(p, n, stood));
            return knocks.size();
        }

        int forget() {
            int n = knocks.size();
            knocks.clear();
            return n;
        }

        int years(int n, int seed, int what) {
            if (n < 1 || n > 60 || seed < 0 || what < 0 || what > 2) {
                return OUTSIDE;
            }
            if (lodgers.isEmpty()) {
                return STATE;
            }
            Model m = twin();
            long next = seed;
            int fell = 0;
            for (int d = 0; d < n; d++) {
                next = Math.floorMod(next * 1103515245L + 12345L, 1L << 31);
                int t = (int) (Math.floorDiv(next, 65536L) % lodgers.size());
                next = Math.floorMod(next * 1103515245L + 12345L, 1L << 31);
                int p = (int) (Math.floorDiv(next, 65536L) % 6);
                m.move(t, p);
                fell += m.oneDay();
            }
            return what == 0 ? fell : what == 1 ? m.count(5) : (int) next;
        }

        int image() {
            if (!open) {
                return STATE;
            }
            kept = twin();
            return days;
        }

        int restore() {
            if (kept == null) {
                return STATE;
            }
            take(kept);
            return days;
        }

        int count(int what) {
            int n = 0;
            switch (what) {
                case 0:
                    for (int s : strong) {
                        n += s > 0 ? 1 : 0;
                    }
                    return n;
                case 1: return air;
                case 2: return cage;
                case 3: return lodgers.size();
                case 4:
                    for (int t = 0; t < lodgers.size(); t++) {
                        n += cutOff(t) ? 1 : 0;
                    }
                    return n;
                case 5:
                    for (int t = 0; t < lodgers.size(); t++) {
                        n += gasps(t) ? 1 : 0;
                    }
                    return n;
                case 6: return days;
                case 7: return falls;
                case 8: return props;
                case 9: return knocks.size();
                case 10: return page.length();
                case 11: return read;
                case 12: return whereDone;
                default: return OUTSIDE;
            }
        }

        long digest() {
            List<Integer> numbers = new ArrayList<>();
            for (int p = 0; p < 6 && open; p++) {
                for (int what = 0; what < 6; what++) {
                    numbers.add(place(p, what));
                }
            }
            for (int t = 0; t < lodgers.size(); t++) {
                for (int what = 0; what < 6; what++) {
                    numbers.add(about(t, what));
                }
            }
            if (open) {
                numbers.addAll(List.of(holds(), out(), props(5, 0)));
                for (int what = 10; what < 16; what++) {
                    numbers.add(props(5, what));
                }
            }
            page.chars().forEach(numbers::add);
            for (int what = 0; what < 13; what++) {
                numbers.add(count(what));
            }
            long h = 919;
            for (int n : numbers) {
                h = h * 31 + n;
            }
            return h;
        }
    }
}
