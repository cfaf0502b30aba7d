import java.util.ArrayDeque;
import java.util.ArrayList;
import java.util.Deque;
import java.util.List;

/**
 * The document once more, written in another way: passengers are objects of classes under one another,
 * branches are looked at as texts, everything is copied whole. What GossipTrain answers is held against it.
 */
final class Model {
    private static final long NO = Long.MIN_VALUE;

    private World now = new World();
    private World kept = null;
    private final StringBuilder text = new StringBuilder();
    private int branches = 0;
    private List<Integer> ran = new ArrayList<>();
    private final Object[] tapes = new Object[6];

    abstract static class Acting {
        final int number;
        final int v;
        final List<Integer> ran;

        Acting(int number, int v, List<Integer> ran) {
            this.number = number;
            this.v = v;
            this.ran = ran;
        }

        abstract int hums(int x);

        abstract int leans(int x);

        abstract int tells(int x);
    }

    static class One extends Acting {
        One(int number, int v, List<Integer> ran) {
            super(number, v, ran);
        }

        int hums(int x) {
            ran.add(10);
            return x + number;
        }

        int leans(int x) {
            ran.add(11);
            return hums(x) - v;
        }

        int tells(int x) {
            ran.add(12);
            return leans(x) * 2;
        }
    }

    static class Girl extends One {
        Girl(int number, int v, List<Integer> ran) {
            super(number, v, ran);
        }

        int leans(int x) {
            ran.add(20);
            return super.leans(x) ^ 6;
        }
    }

    static class Guard extends One {
        Guard(int number, int v, List<Integer> ran) {
            super(number, v, ran);
        }

        int hums(int x) {
            ran.add(30);
            return super.hums(x * 3);
        }
    }

    static class Scandal extends One {
        Scandal(int number, int v, List<Integer> ran) {
            super(number, v, ran);
        }

        int tells(int x) {
            ran.add(40);
            return super.tells(x) + leans(1);
        }
    }

    static final class Trappist extends Girl {
        Trappist(int number, int v, List<Integer> ran) {
            super(number, v, ran);
        }

        int hums(int x) {
            ran.add(50);
            return -super.hums(x);
        }

        int leans(int x) {
            ran.add(51);
            return super.leans(x + 1);
        }
    }

    static final class Vicar extends Guard {
        Vicar(int number, int v, List<Integer> ran) {
            super(number, v, ran);
        }

        int tells(int x) {
            ran.add(60);
            return super.tells(x - number);
        }
    }

    static final class Told extends Scandal {
        Told(int number, int v, List<Integer> ran) {
            super(number, v, ran);
        }

        int leans(int x) {
            ran.add(70);
            return super.leans(x) + super.hums(2);
        }

        int hums(int x) {
            ran.add(71);
            return super.hums(x) ^ v;
        }
    }

    private static Acting acting(int kind, int number, int v, List<Integer> ran) {
        switch (kind) {
            case 0: return new One(number, v, ran);
            case 1: return new Girl(number, v, ran);
            case 2: return new Guard(number, v, ran);
            case 3: return new Scandal(number, v, ran);
            case 4: return new Trappist(number, v, ran);
            case 5: return new Vicar(number, v, ran);
            default: return new Told(number, v, ran);
        }
    }

    static final class Person {
        int kind;
        int v;
        int carriage;
        int knows;
        boolean off;
        int[] row = new int[4];

        Person copy() {
            Person other = new Person();
            other.kind = kind;
            other.v = v;
            other.carriage = carriage;
            other.knows = knows;
            other.off = off;
            other.row = row.clone();
            return other;
        }
    }

    static final class World {
        int[] heat = {3, 3, 3, 3, 3, 3, 3, 3};
        int[] often = new int[8];
        List<Person> people = new ArrayList<>();
        int steam = 0;
        int place = 0;
        int minute = 0;
        String branch = null;
        List<int[]> seen = new ArrayList<>();
        List<int[]> plan = new ArrayList<>();
        List<int[]> book = new ArrayList<>();

        World copy() {
            World other = new World();
            other.heat = heat.clone();
            other.often = often.clone();
            for (Person person : people) {
                other.people.add(person.copy());
            }
            other.steam = steam;
            other.place = place;
            other.minute = minute;
            other.branch = branch;
            other.seen.addAll(seen);
            other.plan.addAll(plan);
            other.book.addAll(book);
            return other;
        }

        World after(int minutes) {
            World other = copy();
            for (int n = 0; n < minutes; n++) {
                other.goOn();
            }
            return other;
        }

        int slope() {
            int slope = 5;
            if (branch != null) {
                for (String clause : branch.split(";")) {
                    if (clause.startsWith("slope ")) {
                        slope = Integer.parseInt(clause.substring(6));
                    }
                }
            }
            return slope;
        }

        int sum(int p, int tale) {
            int sum = 2 * heat[tale] - often[tale];
            if (branch == null) {
                return sum;
            }
            for (String clause : branch.split(";")) {
                String[] parts = clause.split(" ");
                if (parts.length == 3 && isSo(parts[2], p, tale)) {
                    sum += Integer.parseInt(parts[1]) * (parts[0].equals("warm") ? 1 : -1);
                }
            }
            return sum;
        }

        boolean isSo(String e, int p, int tale) {
            List<String> parts = splitOutside(e, '|');
            if (parts.size() > 1) {
                return parts.stream().anyMatch(part -> isSo(part, p, tale));
            }
            parts = splitOutside(e, '&');
            if (parts.size() > 1) {
                return parts.stream().allMatch(part -> isSo(part, p, tale));
            }
            if (e.charAt(0) == '!') {
                return !isSo(e.substring(1), p, tale);
            }
            if (e.charAt(0) == '(') {
                return isSo(e.substring(1, e.length() - 1), p, tale);
            }
            int n = Integer.parseInt(e.substring(2));
            int value = valueOf(e.charAt(0), p, tale);
            return e.charAt(1) == '<' ? value < n : e.charAt(1) == '=' ? value == n : value > n;
        }

        int valueOf(char letter, int p, int tale) {
            switch (letter) {
                case 'p': return p;
                case 'k': return people.get(p).kind;
                case 'v': return people.get(p).v;
                case 't': return tale;
                case 'o': return often[tale];
                default: return minute % 10;
            }
        }

        static List<String> splitOutside(String e, char by) {
            List<String> parts = new ArrayList<>();
            int deep = 0;
            int from = 0;
            for (int k = 0; k < e.length(); k++) {
                deep += e.charAt(k) == '(' ? 1 : e.charAt(k) == ')' ? -1 : 0;
                if (deep == 0 && e.charAt(k) == by) {
                    parts.add(e.substring(from, k));
                    from = k + 1;
                }
            }
            parts.add(e.substring(from));
            return parts;
        }

        int glow(int p, int tale) {
            Person person = people.get(p);
            int sum = sum(p, tale);
            boolean isFresh = often[tale] == 0;
            switch (person.kind) {
                case 0: return sum;
                case 1: return sum + person.v;
                case 2: return sum / 2;
                case 3: return isFresh ? 2 * sum : sum;
                case 4: return minute % 4 != 0 ? 0 : sum + person.v;
                case 5: return sum / 2 - person.v;
                default: return (isFresh ? 2 * sum : sum) + person.row[tale % 4];
            }
        }

        int wouldTell(int p) {
            int found = -5;
            for (int t = 7; t >= 0; t--) {
                if ((people.get(p).knows & 1 << t) != 0 && glow(p, t) > 0
                        && (found < 0 || glow(p, t) >= glow(p, found))) {
                    found = t;
                }
            }
            return found;
        }

        void goOn() {
            for (int p = 0; p < people.size(); p++) {
                Person teller = people.get(p);
                int tale = teller.off ? -5 : wouldTell(p);
                if (tale == -5) {
                    continue;
                }
                steam += glow(p, tale);
                if (often[tale] < 99) {
                    often[tale]++;
                }
                for (Person hearer : people) {
                    if (!hearer.off && hearer.carriage == teller.carriage) {
                        hearer.knows |= 1 << tale;
                    }
                }
            }
            int slope = slope() == 0 ? 1 : slope();
            for (int step = 0; step < 20 && steam >= slope; step++) {
                steam -= slope;
                place++;
            }
            steam = steam > 9999 ? 9999 : steam;
            place = place > 9999 ? 9999 : place;
            minute++;
        }

        boolean isAllSeenSo(int column, int of) {
            for (int[] row : seen) {
                int glow = glow(row[0], row[1]);
                if (row[column] == of && (glow < 0 ? 0 : glow) != row[2]) {
                    return false;
                }
            }
            return true;
        }
    }

    private boolean noPerson(int p) {
        return p < 0 || p >= now.people.size();
    }

    private static boolean out(int n, int last) {
        return n < 0 || n > last;
    }

    int one(int kind, int v, int carriage, int knows) {
        if (out(kind, 6) || out(carriage, 3)) {
            return -1;
        }
        if (out(v, 9) || out(knows, 255)) {
            return -2;
        }
        if (now.people.size() == 6) {
            return -4;
        }
        Person person = new Person();
        person.kind = kind;
        person.v = v;
        person.carriage = carriage;
        person.knows = knows;
        now.people.add(person);
        return now.people.size() - 1;
    }

    int of(int p, int what) {
        if (noPerson(p) || out(what, 17) || what > 5 && what < 10) {
            return -10001;
        }
        Person person = now.people.get(p);
        int[] told = {person.kind, person.v, person.carriage, person.knows, person.off ? 1 : 0, now.wouldTell(p)};
        return what < 6 ? told[what] : now.glow(p, what - 10);
    }

    int seat(int p, int carriage) {
        if (noPerson(p) || out(carriage, 3)) {
            return -1;
        }
        int was = now.people.get(p).carriage;
        now.people.get(p).carriage = carriage;
        return was;
    }

    int know(int p, int tales) {
        if (noPerson(p)) {
            return -1;
        }
        if (out(tales, 255)) {
            return -2;
        }
        int was = now.people.get(p).knows;
        now.people.get(p).knows = tales;
        return was;
    }

    int leave(int p, boolean is) {
        if (noPerson(p)) {
            return -1;
        }
        boolean was = now.people.get(p).off;
        now.people.get(p).off = is;
        return was ? 1 : 0;
    }

    int set(int tale, int what, int n) {
        if (out(tale, 7) || out(what, 1)) {
            return -1;
        }
        if (out(n, what == 0 ? 9 : 99)) {
            return -2;
        }
        int[] told = what == 0 ? now.heat : now.often;
        int was = told[tale];
        told[tale] = n;
        return was;
    }

    int row(int p, int part, int n) {
        if (noPerson(p) || out(part, 3)) {
            return -1;
        }
        if (out(n, 9)) {
            return -2;
        }
        Person person = now.people.get(p);
        if (person.kind != 6) {
            return -3;
        }
        int was = person.row[part];
        person.row[part] = n;
        return was;
    }

    int feed(int sign) {
        if (out(sign, 127)) {
            return -2;
        }
        if (text.length() == 100) {
            return -4;
        }
        text.append((char) sign);
        return text.length();
    }

    int branch() {
        if (branches == 6) {
            return -4;
        }
        String told = text.toString();
        text.setLength(0);
        int fault = fault(told);
        if (fault >= 0) {
            return -10 - fault;
        }
        now.branch = told;
        return branches++;
    }

    /** Sign by sign, by what may come next; the open ones are kept on a stack. */
    static int fault(String told) {
        Deque<Character> open = new ArrayDeque<>();
        String state = "word";
        String word = "";
        int clauses = 1;
        for (int k = 0; k < told.length(); k++) {
            char c = told.charAt(k);
            String next = null;
            if (state.equals("word")) {
                word += c;
                next = word.equals("warm ") || word.equals("shame ") || word.equals("slope ") ? "n1"
                    : "warm ".startsWith(word) || "shame ".startsWith(word) || "slope ".startsWith(word) ? "word" : null;
            } else if (state.equals("n1")) {
                next = c >= '0' && c <= '9' ? "n2" : null;
            } else if (state.equals("n2") && c >= '0' && c <= '9') {
                next = "n3";
            } else if (state.equals("n2") || state.equals("n3")) {
                if (word.equals("slope ")) {
                    next = c == ';' && clauses < 10 ? "word" : null;
                } else {
                    next = c == ' ' ? "factor" : null;
                }
            } else if (state.equals("factor")) {
                if (c == '(' || c == '!') {
                    next = open.size() < 4 ? "factor" : null;
                    open.push(c);
                } else {
                    next = "pkvtom".indexOf(c) >= 0 ? "sign" : null;
                }
            } else if (state.equals("sign")) {
                next = c == '<' || c == '=' || c == '>' ? "t1" : null;
            } else if (state.equals("t1")) {
                next = c >= '0' && c <= '9' ? "t2" : null;
            } else if (state.equals("t2") && c >= '0' && c <= '9') {
                next = "t3";
            } else {
                popNots(open);
                if (c == '&' || c == '|') {
                    next = "factor";
                } else if (c == ')' && !open.isEmpty()) {
                    open.pop();
                    next = "t3";
                } else {
                    next = c == ';' && open.isEmpty() && clauses < 10 ? "word" : null;
                }
            }
            if (next == null) {
                return k;
            }
            if (next.equals("word") && c == ';') {
                clauses++;
                word = "";
            }
            state = next;
        }
        popNots(open);
        boolean isWhole = word.equals("slope ") ? state.equals("n2") || state.equals("n3")
            : (state.equals("t2") || state.equals("t3")) && open.isEmpty();
        return isWhole ? -1 : told.length();
    }

    private static void popNots(Deque<Character> open) {
        while (!open.isEmpty() && open.peek() == '!') {
            open.pop();
        }
    }

    int told(int what) {
        switch (what) {
            case 0: return now.minute;
            case 1: return now.slope();
            case 2: return now.steam;
            case 3: return now.place;
            case 4: return ash();
            default: break;
        }
        if (out(what, 37) || what < 10 || what % 10 > 7) {
            return -1;
        }
        int tale = what % 10;
        return what / 10 == 1 ? now.heat[tale] : what / 10 == 2 ? now.often[tale] : spread(tale);
    }

    private int ash() {
        int bits = 0;
        for (int t = 0; t < 8; t++) {
            boolean burns = false;
            for (int p = 0; p < now.people.size(); p++) {
                Person person = now.people.get(p);
                burns |= !person.off && (person.knows >> t) % 2 == 1 && now.glow(p, t) > 0;
            }
            bits += burns ? 0 : 1 << t;
        }
        return bits;
    }

    private int spread(int t) {
        int bits = 0;
        for (int p = 0; p < now.people.size(); p++) {
            Person person = now.people.get(p);
            boolean is = (person.knows >> t) % 2 == 1;
            for (Person other : now.people) {
                is |= !person.off && !other.off && (other.knows >> t) % 2 == 1 && other.carriage == person.carriage;
            }
            bits += is ? 1 << p : 0;
        }
        return bits;
    }

    int pass(int n) {
        if (out(n, 30)) {
            return -2;
        }
        if (now.minute + n > 9999) {
            return -3;
        }
        now = now.after(n);
        return now.minute;
    }

    int on(int n, int what) {
        boolean isWhat = !out(what, 1) || !out(what - 10, now.people.size() - 1) && what >= 10
            || !out(what - 20, 7) && what >= 20;
        if (!isWhat) {
            return -1;
        }
        if (out(n, 30)) {
            return -2;
        }
        World then = now.after(n);
        return what == 0 ? then.steam : what == 1 ? then.place
            : what < 20 ? then.people.get(what - 10).knows : then.often[what - 20];
    }

    int gets(int station) {
        if (out(station, 99)) {
            return -2;
        }
        for (int n = 0; n <= 30; n++) {
            if (now.after(n).place >= 50 * station) {
                return n;
            }
        }
        return -5;
    }

    int hears(int p, int tale) {
        if (noPerson(p) || out(tale, 7)) {
            return -1;
        }
        World then = now.copy();
        for (int n = 0; n <= 30; n++) {
            if ((then.people.get(p).knows >> tale) % 2 == 1) {
                return n;
            }
            then.goOn();
        }
        return -5;
    }

    int best(int p, int n) {
        if (noPerson(p)) {
            return -1;
        }
        if (n < 1 || n > 10) {
            return -2;
        }
        long[] scores = new long[4];
        int found = 0;
        for (int c = 0; c < 4; c++) {
            World then = now.copy();
            then.people.get(p).carriage = c;
            then = then.after(n);
            scores[c] = then.place * 100000L + then.steam;
            found = scores[c] > scores[found] ? c : found;
        }
        return found;
    }

    int swap(int n) {
        if (n < 1 || n > 10) {
            return -2;
        }
        int[] places = new int[60];
        int most = now.after(n).place;
        int found = -5;
        for (int code = 0; code < 60; code++) {
            int a = code / 10;
            int b = code % 10;
            if (a >= b || noPerson(b)) {
                continue;
            }
            World then = now.copy();
            then.people.get(a).carriage = now.people.get(b).carriage;
            then.people.get(b).carriage = now.people.get(a).carriage;
            places[code] = then.after(n).place;
            if (places[code] > most) {
                most = places[code];
                found = code;
            }
        }
        return found;
    }

    int see(int p, int tale, int glow) {
        if (p == -1) {
            now.seen.clear();
            return 0;
        }
        if (noPerson(p) || out(tale, 7)) {
            return -1;
        }
        if (out(glow, 99)) {
            return -2;
        }
        return come(now.seen, 5, p, tale, glow);
    }

    private static int come(List<int[]> rows, int most, int... row) {
        if (rows.size() == most) {
            return -4;
        }
        rows.add(row);
        return rows.size();
    }

    int can(int what, int i, int part) {
        if (out(what, 1) || out(part, 1) || what == 0 && noPerson(i) || what == 1 && out(i, 7)) {
            return -1;
        }
        List<Integer> good = new ArrayList<>();
        for (int n = 0; n < (what == 0 ? 10 : 100); n++) {
            World then = now.copy();
            if (what == 0) {
                then.people.get(i).v = n;
            } else {
                then.often[i] = n;
            }
            if (then.isAllSeenSo(what, i)) {
                good.add(n);
            }
        }
        return part == 0 ? good.size() : good.isEmpty() ? -5 : good.get(0);
    }

    private static long fraction(int above, int below, int part) {
        int a = above;
        int b = below;
        while (b != 0) {
            int rest = a % b;
            a = b;
            b = rest;
        }
        return part == 0 ? above / a : below / a;
    }

    long odds(int p, int n, int part) {
        if (noPerson(p) || out(n, 10) || out(part, 1)) {
            return NO;
        }
        int place = now.after(n).place;
        int good = 0;
        for (int t = 0; t < 8; t++) {
            World then = now.copy();
            then.people.get(p).knows |= 1 << t;
            good += then.after(n).place > place ? 1 : 0;
        }
        return fraction(good, 8, part);
    }

    long mean(int n, int part) {
        if (out(n, 30) || out(part, 1) || now.people.isEmpty()) {
            return NO;
        }
        int all = 0;
        for (Person person : now.after(n).people) {
            all += Integer.toBinaryString(person.knows).replace("0", "").length();
        }
        return fraction(all, now.people.size(), part);
    }

    int plan(int what, int n) {
        if (what == -1) {
            now.plan.clear();
            return 0;
        }
        if (out(what, 3)) {
            return -1;
        }
        if (what != 0 && noPerson(what == 3 ? Math.floorDiv(n, 10) : n) || what == 3 && n % 10 > 3) {
            return -1;
        }
        return come(now.plan, 10, what, n);
    }

    int ends(int what) {
        if (out(what, 1)) {
            return -1;
        }
        World then = now.copy();
        for (int[] row : now.plan) {
            switch (row[0]) {
                case 0: then.goOn(); break;
                case 1: then.people.get(row[1]).off = true; break;
                case 2: then.people.get(row[1]).off = false; break;
                default: then.people.get(row[1] / 10).carriage = row[1] % 10; break;
            }
        }
        return what == 0 ? then.place : then.steam;
    }

    int book(int p, int knows) {
        if (p == -1) {
            now.book.clear();
            return 0;
        }
        if (noPerson(p)) {
            return -1;
        }
        if (out(knows, 255)) {
            return -2;
        }
        return come(now.book, 8, p, knows);
    }

    int looked() {
        for (int k = 0; k < now.book.size(); k++) {
            if (now.people.get(now.book.get(k)[0]).knows != now.book.get(k)[1]) {
                return k;
            }
        }
        return -5;
    }

    int judge(int tape, int i) {
        if (out(tape, 5)) {
            return -1;
        }
        if (tapes[tape] != null && !(tapes[tape] instanceof short[])) {
            return -12;
        }
        if (now.people.isEmpty()) {
            return -5;
        }
        if (tapes[tape] == null || i < 0) {
            return 100;
        }
        short[] row = (short[]) tapes[tape];
        for (int p = 0; p < now.people.size(); p++) {
            if ((long) i + p >= row.length) {
                return 100 + p;
            }
            if (row[i + p] != now.people.get(p).knows) {
                return p;
            }
        }
        return -5;
    }

    int image() {
        kept = now.copy();
        return now.people.size();
    }

    int undo() {
        if (kept == null) {
            return -3;
        }
        now = kept.copy();
        return now.people.size();
    }

    int act(int p, int act, int x) {
        ran = new ArrayList<>();
        if (noPerson(p) || out(act, 2)) {
            return 0;
        }
        Acting acting = acting(now.people.get(p).kind, p, now.people.get(p).v, ran);
        return act == 0 ? acting.hums(x) : act == 1 ? acting.leans(x) : acting.tells(x);
    }

    int trace(int i) {
        return out(i, Math.min(ran.size(), 20) - 1) ? -1 : ran.get(i);
    }

    int taken(int p, int k) {
        if (out(k, 6)) {
            return -2;
        }
        if (noPerson(p)) {
            return -11;
        }
        int kind = now.people.get(p).kind;
        Class<?> asked = acting(k, 0, 0, ran).getClass();
        return asked.isInstance(acting(kind, 0, 0, ran)) ? kind : -12;
    }

    int count(int what) {
        int[] all = {now.people.size(), branches, now.seen.size(), now.plan.size(), now.book.size(),
            text.length(), ran.size()};
        return out(what, 6) ? -2 : all[what];
    }

    int tape(int tape, int sort, int n) {
        if (out(tape, 5)) {
            return -1;
        }
        if (out(sort + 1, 5) || sort >= 0 && n > 60) {
            return -2;
        }
        if (sort >= 0 && n < 0) {
            return -14;
        }
        switch (sort) {
            case 0: tapes[tape] = new byte[n]; break;
            case 1: tapes[tape] = new short[n]; break;
            case 2: tapes[tape] = new int[n]; break;
            case 3: tapes[tape] = new long[n]; break;
            case 4: tapes[tape] = new boolean[n]; break;
            default: tapes[tape] = null; break;
        }
        return 1;
    }

    private boolean noPlace(int tape, int i) {
        return out(i, java.lang.reflect.Array.getLength(tapes[tape]) - 1);
    }

    int item(int tape, int i, long v) {
        if (out(tape, 5)) {
            return -1;
        }
        if (tapes[tape] == null) {
            return -11;
        }
        if (noPlace(tape, i)) {
            return -13;
        }
        if (tapes[tape] instanceof byte[]) {
            ((byte[]) tapes[tape])[i] = (byte) v;
        } else if (tapes[tape] instanceof short[]) {
            ((short[]) tapes[tape])[i] = (short) v;
        } else if (tapes[tape] instanceof int[]) {
            ((int[]) tapes[tape])[i] = (int) v;
        } else if (tapes[tape] instanceof long[]) {
            ((long[]) tapes[tape])[i] = v;
        } else {
            ((boolean[]) tapes[tape])[i] = v != 0;
        }
        return 1;
    }

    long read(int tape, int i) {
        if (out(tape, 5) || tapes[tape] == null || noPlace(tape, i)) {
            return NO;
        }
        if (tapes[tape] instanceof boolean[]) {
            return ((boolean[]) tapes[tape])[i] ? 1 : 0;
        }
        return java.lang.reflect.Array.getLong(tapes[tape], i);
    }

    int shift(int tape, int i, int other, int j, int n) {
        if (out(tape, 5) || out(other, 5)) {
            return -1;
        }
        if (tapes[tape] == null || tapes[other] == null) {
            return -11;
        }
        if (tapes[tape].getClass() != tapes[other].getClass()) {
            return -12;
        }
        try {
            System.arraycopy(tapes[tape], i, tapes[other], j, n);
        } catch (IndexOutOfBoundsException e) {
            return -13;
        }
        return n;
    }
}
