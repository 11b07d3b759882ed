import java.math.BigDecimal;
import java.math.BigInteger;
import java.math.MathContext;
import java.math.RoundingMode;
import java.util.ArrayList;
import java.util.Collections;
import java.util.HashMap;
import java.util.HashSet;
import java.util.List;
import java.util.Map;
import java.util.NoSuchElementException;
import java.util.Set;

/** The document in its slowest form: all rounds are listed, lengths are decimals of 60 digits. */
final class SlowLaces {
    private static final MathContext DIGITS = new MathContext(60, RoundingMode.HALF_EVEN);
    private static final BigDecimal TINY = new BigDecimal("1e-40");

    private static final class Fault extends Exception {
        private static final long serialVersionUID = 1L;
        final int kind;
        final int place;

        Fault(int kind, int place) {
            this.kind = kind;
            this.place = place;
        }
    }

    private static final class Token {
        final char sort;
        final String text;
        final int place;

        Token(char sort, String text, int place) {
            this.sort = sort;
            this.text = text;
            this.place = place;
        }

        BigInteger value() {
            return new BigInteger(text);
        }
    }

    private record Image(List<Integer> way, List<Integer> picture, List<List<Integer>> kept) { }

    private final List<Integer> tape = new ArrayList<>();
    private int left = 6;
    private int right = 6;
    private int wide = 30;
    private int step = 20;
    private int law = 0;
    private int lace = 9999;
    private final Set<Integer> torn = new HashSet<>();
    private int faultPlace = -1;
    private List<Integer> way = List.of();
    private List<Integer> picture = new ArrayList<>();
    private List<List<Integer>> kept = new ArrayList<>();
    private final List<Image> images = new ArrayList<>();
    private final Map<Integer, List<List<Integer>>> roundsOf = new HashMap<>();
    private final Map<Integer, BigDecimal> shortest = new HashMap<>();
    private final Map<Integer, BigDecimal> roots = new HashMap<>();
    private final Map<Integer, BigDecimal> pulls = new HashMap<>();

    // ---- texts

    int feed(int... numbers) {
        if (tape.size() + 20 > 400) {
            return -1;
        }
        for (int number : numbers) {
            for (int i = 3; i >= 0; i--) {
                tape.add(number >> 8 * i & 255);
            }
        }
        return tape.size();
    }

    private List<Token> tokens(int n) {
        List<Token> list = new ArrayList<>();
        int i = 0;
        while (i < n) {
            int from = i;
            int sign = tape.get(i);
            char sort = Character.isDigit(sign) && sign < 128 ? 'n' : sign >= 'a' && sign <= 'z' ? 'w' : sign == ' ' ? ' ' : (char) sign;
            StringBuilder text = new StringBuilder();
            do {
                text.append((char) (int) tape.get(i));
                i++;
            } while ((sort == 'n' || sort == 'w') && i < n && sortOf(tape.get(i)) == sort);
            if (sort != ' ') {
                list.add(new Token(sort, text.toString(), from));
            }
        }
        list.add(new Token('\uffff', "", n));
        return list;
    }

    private static char sortOf(int sign) {
        return sign >= '0' && sign <= '9' ? 'n' : sign >= 'a' && sign <= 'z' ? 'w' : '?';
    }

    private static int number(Token token, int least, int most) throws Fault {
        if (token.sort != 'n') {
            throw new Fault(1, token.place);
        }
        if (token.value().compareTo(BigInteger.valueOf(least)) < 0 || token.value().compareTo(BigInteger.valueOf(most)) > 0) {
            throw new Fault(2, token.place);
        }
        return token.value().intValue();
    }

    int boot(int n) {
        if (n < 0 || n > tape.size()) {
            throw new IllegalArgumentException();
        }
        List<Token> list = tokens(n);
        tape.clear();
        int[] values = {6, 6, 30, 20, 0, 9999};
        Set<Integer> holes = new HashSet<>();
        try {
            readBoot(list, values, holes);
        } catch (Fault fault) {
            faultPlace = fault.place;
            return fault.kind - 10;
        }
        faultPlace = -1;
        left = values[0];
        right = values[1];
        wide = values[2];
        step = values[3];
        law = values[4];
        lace = values[5];
        torn.clear();
        torn.addAll(holes);
        way = List.of();
        picture = new ArrayList<>();
        kept = new ArrayList<>();
        images.clear();
        roundsOf.clear();
        shortest.clear();
        roots.clear();
        pulls.clear();
        return left + right - torn.size();
    }

    private static void readBoot(List<Token> list, int[] values, Set<Integer> holes) throws Fault {
        int i = 0;
        for (int clause = 1; i < list.size() - 1; clause++) {
            Token word = list.get(i);
            List<String> words = List.of("rows", "apart", "torn", "law", "lace");
            if (word.sort != 'w' || !words.contains(word.text)) {
                throw new Fault(1, word.place);
            }
            if (clause > 40) {
                throw new Fault(3, word.place);
            }
            if (word.text.equals("rows") && clause > 1) {
                throw new Fault(4, word.place);
            }
            i++;
            switch (word.text) {
                case "rows" -> {
                    values[0] = number(list.get(i++), 1, 6);
                    values[1] = number(list.get(i++), 1, 6);
                }
                case "apart" -> {
                    values[2] = number(list.get(i++), 1, 99);
                    values[3] = number(list.get(i++), 1, 99);
                }
                case "torn" -> holes.add(number(list.get(i++), 0, values[0] + values[1] - 1));
                case "law" -> values[4] = number(list.get(i++), 0, 2);
                default -> values[5] = number(list.get(i++), 1, 9999);
            }
            if (list.get(i).sort != ';') {
                throw new Fault(1, list.get(i).place);
            }
            i++;
        }
    }

    int way(int n) {
        if (n < 0 || n > tape.size() || n > 100) {
            throw new IllegalArgumentException();
        }
        List<Token> list = tokens(n);
        tape.clear();
        List<Integer> holes = new ArrayList<>();
        try {
            for (Token token : list.subList(0, list.size() - 1)) {
                int hole = number(token, 0, left + right - 1);
                if (torn.contains(hole) || holes.contains(hole)) {
                    throw new Fault(2, token.place);
                }
                holes.add(hole);
            }
            if (holes.size() < 3) {
                throw new Fault(4, n);
            }
        } catch (Fault fault) {
            faultPlace = fault.place;
            return fault.kind - 10;
        }
        faultPlace = -1;
        way = holes;
        return holes.size();
    }

    int fault() {
        return faultPlace;
    }

    int told(int what) {
        int bits = 0;
        for (int hole : torn) {
            bits |= 1 << hole;
        }
        if (what < 0 || what > 7) {
            throw new IllegalArgumentException();
        }
        return new int[] {left, right, wide, step, law, lace, bits, way.size()}[what];
    }

    // ---- sums of roots

    private boolean across(int a, int b) {
        return a < left != b < left;
    }

    private int square(int a, int b) {
        int ya = (a < left ? a : a - left) * step;
        int yb = (b < left ? b : b - left) * step;
        return (across(a, b) ? wide * wide : 0) + (ya - yb) * (ya - yb);
    }

    private BigDecimal length(int a, int b) {
        return roots.computeIfAbsent(square(a, b), n -> BigDecimal.valueOf(n).sqrt(DIGITS));
    }

    private List<BigDecimal> spans(List<Integer> round) {
        List<BigDecimal> list = new ArrayList<>();
        for (int i = 0; i < round.size(); i++) {
            list.add(length(round.get(i), round.get((i + 1) % round.size())));
        }
        return list;
    }

    private BigDecimal length(List<Integer> round) {
        BigDecimal sum = BigDecimal.ZERO;
        for (BigDecimal span : spans(round)) {
            sum = sum.add(span);
        }
        return sum;
    }

    private BigDecimal pull(List<Integer> round) {
        BigDecimal sum = BigDecimal.ZERO;
        for (int i = 0; i < round.size(); i++) {
            int a = round.get(i);
            int b = round.get((i + 1) % round.size());
            if (across(a, b)) {
                sum = sum.add(pulls.computeIfAbsent(square(a, b), n -> BigDecimal.valueOf(wide).divide(length(a, b), DIGITS)));
            }
        }
        return sum;
    }

    private static int compare(BigDecimal a, BigDecimal b) {
        return a.subtract(b).abs().compareTo(TINY) < 0 ? 0 : a.compareTo(b);
    }

    private static int cut(BigDecimal value, int times) {
        return value.add(TINY).multiply(BigDecimal.valueOf(times)).setScale(0, RoundingMode.FLOOR).intValueExact();
    }

    // ---- rounds

    private static List<Integer> holesOf(int bits) {
        List<Integer> list = new ArrayList<>();
        for (int i = 0; i < 32; i++) {
            if ((bits >>> i & 1) != 0) {
                list.add(i);
            }
        }
        return list;
    }

    private static int bitsOf(Iterable<Integer> holes) {
        int bits = 0;
        for (int hole : holes) {
            bits |= 1 << hole;
        }
        return bits;
    }

    private int whole() {
        return (1 << left + right) - 1 & ~bitsOf(torn);
    }

    private boolean lawfulAt(List<Integer> round, int i) {
        int n = round.size();
        int spans = (across(round.get((i + n - 1) % n), round.get(i)) ? 1 : 0) + (across(round.get(i), round.get((i + 1) % n)) ? 1 : 0);
        return law == 0 || (law == 1 ? spans >= 1 : spans == 1);
    }

    private boolean lawful(List<Integer> round) {
        for (int i = 0; i < round.size(); i++) {
            if (!lawfulAt(round, i)) {
                return false;
            }
        }
        return true;
    }

    private List<List<Integer>> rounds(int bits) {
        return roundsOf.computeIfAbsent(bits, key -> {
            List<List<Integer>> list = new ArrayList<>();
            List<Integer> holes = holesOf(key);
            if (holes.size() >= 3) {
                List<Integer> begin = new ArrayList<>();
                begin.add(holes.remove(0));
                listRounds(begin, holes, list);
            }
            return list;
        });
    }

    private void listRounds(List<Integer> begin, List<Integer> rest, List<List<Integer>> list) {
        if (rest.isEmpty()) {
            if (begin.get(1) < begin.get(begin.size() - 1) && lawful(begin)) {
                list.add(List.copyOf(begin));
            }
            return;
        }
        for (int i = 0; i < rest.size(); i++) {
            begin.add(rest.remove(i));
            listRounds(begin, rest, list);
            rest.add(i, begin.remove(begin.size() - 1));
        }
    }

    private static List<Integer> toldOf(List<Integer> round) {
        List<Integer> told = new ArrayList<>(round);
        Collections.rotate(told, -told.indexOf(Collections.min(told)));
        if (told.get(1) > told.get(told.size() - 1)) {
            Collections.reverse(told);
            Collections.rotate(told, 1);
        }
        return told;
    }

    private BigDecimal shortest(int bits) {
        if (!shortest.containsKey(bits)) {
            BigDecimal least = null;
            for (List<Integer> round : rounds(bits)) {
                BigDecimal length = length(round);
                if (least == null || compare(length, least) < 0) {
                    least = length;
                }
            }
            shortest.put(bits, least);
        }
        return shortest.get(bits);
    }

    private void needWay() {
        if (way.isEmpty()) {
            throw new NoSuchElementException();
        }
    }

    private void needHole(int hole) {
        if (hole < 0 || hole >= left + right) {
            throw new IndexOutOfBoundsException();
        }
    }

    private void needRound(int bits) {
        if ((bits & ~whole()) != 0 || holesOf(bits).size() < 3) {
            throw new IllegalArgumentException();
        }
    }

    private static void need(boolean fine) {
        if (!fine) {
            throw new IllegalArgumentException();
        }
    }

    int span(int from, int to) {
        needHole(from);
        needHole(to);
        need(from != to);
        return cut(length(from, to), 1000);
    }

    int at(int i) {
        return i < 0 || i >= way.size() ? -1 : way.get(i);
    }

    int judge() {
        needWay();
        for (int i = 0; i < way.size(); i++) {
            if (!lawfulAt(way, i)) {
                return way.get(i);
            }
        }
        return -1;
    }

    int measure(int what) {
        needWay();
        need(what >= 0 && what <= 4);
        int n = way.size();
        int over = 0;
        int turns = 0;
        for (int i = 0; i < n; i++) {
            boolean in = across(way.get(i), way.get((i + 1) % n));
            boolean out = across(way.get((i + 1) % n), way.get((i + 2) % n));
            over += in ? 1 : 0;
            turns += in || out ? 0 : 1;
        }
        int fits = compare(length(way), BigDecimal.valueOf(lace)) <= 0 ? 1 : 0;
        return new int[] {cut(length(way), 1000), cut(pull(way), 1000000), over, turns, fits}[what];
    }

    long number() {
        needWay();
        return lawful(way) ? rounds(bitsOf(way)).indexOf(toldOf(way)) : -1;
    }

    long count(int bits) {
        needRound(bits);
        return rounds(bits).size();
    }

    int take(int bits, long number) {
        needRound(bits);
        if (number < 0 || number >= rounds(bits).size()) {
            return -1;
        }
        way = rounds(bits).get((int) number);
        return way.size();
    }

    int best(int bits, int what) {
        needRound(bits);
        need(what >= 0 && what <= 2);
        List<Integer> found = null;
        BigDecimal most = null;
        for (List<Integer> round : rounds(bits)) {
            BigDecimal worth = what == 0 ? length(round).negate() : what == 1 ? length(round) : pull(round);
            if (most == null || compare(worth, most) > 0) {
                most = worth;
                found = round;
            }
        }
        if (found == null) {
            return -1;
        }
        way = found;
        return what == 2 ? cut(most, 1000000) : cut(most.abs(), 1000);
    }

    int against() {
        needWay();
        BigDecimal least = shortest(bitsOf(way));
        if (least == null) {
            return -1;
        }
        int order = compare(length(way), least);
        return order < 0 ? -2 : order;
    }

    int leave() {
        int whole = whole();
        for (int few = 0; few <= 12; few++) {
            for (int bits = 0; bits <= whole; bits++) {
                if ((bits & ~whole) == 0 && holesOf(bits).size() == few) {
                    BigDecimal least = shortest(whole & ~bits);
                    if (least != null && compare(least, BigDecimal.valueOf(lace)) <= 0) {
                        return bits;
                    }
                }
            }
        }
        return -1;
    }

    int tooShort() {
        BigDecimal least = shortest(whole());
        return least == null ? -1 : Math.max(0, cut(least, 1000) - 1000 * lace);
    }

    private List<Integer> image(List<Integer> round, boolean turned, boolean mirrored) {
        List<Integer> list = new ArrayList<>();
        for (int hole : round) {
            int row = hole / left;
            int place = hole % left;
            list.add((mirrored ? 1 - row : row) * left + (turned ? left - 1 - place : place));
        }
        return toldOf(list);
    }

    int alike() {
        if (left != right || !torn.isEmpty() || left + right > 8) {
            return -1;
        }
        Set<Set<List<Integer>>> sorts = new HashSet<>();
        for (List<Integer> round : rounds(whole())) {
            sorts.add(Set.copyOf(new HashSet<>(List.of(round, image(round, true, false), image(round, false, true), image(round, true, true)))));
        }
        return sorts.size();
    }

    int itself() {
        needWay();
        if (left != right || !torn.isEmpty()) {
            return -1;
        }
        int sum = 0;
        for (int i = 0; i < 4; i++) {
            sum += image(way, i % 2 == 1, i > 1).equals(toldOf(way)) ? 1 : 0;
        }
        return sum;
    }

    private BigDecimal both(int colour) {
        BigDecimal one = shortest(colour);
        BigDecimal other = shortest(whole() & ~colour);
        return one == null || other == null ? null : one.add(other);
    }

    int two(int colour) {
        need((colour & ~whole()) == 0);
        BigDecimal both = both(colour);
        return both == null ? -1 : cut(both, 1000);
    }

    int colours() {
        int whole = whole();
        int found = -1;
        BigDecimal least = null;
        for (int colour = 0; colour <= whole; colour++) {
            if ((colour & ~whole) == 0 && holesOf(colour).size() == holesOf(whole).size() / 2) {
                BigDecimal both = both(colour);
                if (both != null && (least == null || compare(both, least) < 0)) {
                    least = both;
                    found = colour;
                }
            }
        }
        return found;
    }

    // ---- picture, knot, weeks, images

    int see(int from, int to) {
        needHole(from);
        needHole(to);
        need(from != to);
        if (picture.contains(from) || picture.contains(to) || torn.contains(from) || torn.contains(to) || picture.size() >= 12) {
            return -1;
        }
        picture.add(from);
        picture.add(to);
        return picture.size() / 2;
    }

    int blind() {
        int spans = picture.size() / 2;
        picture.clear();
        return spans;
    }

    private static Set<Set<Integer>> seenFrom(List<Integer> round, int from) {
        Set<Set<Integer>> pairs = new HashSet<>();
        for (int i = from; i < round.size(); i += 2) {
            pairs.add(Set.of(round.get(i), round.get((i + 1) % round.size())));
        }
        return pairs;
    }

    private int seenOf(List<Integer> round) {
        if (round.size() % 2 == 1) {
            return 0;
        }
        Set<Set<Integer>> pairs = seenFrom(picture, 0);
        return seenFrom(round, 0).equals(pairs) ? 1 : seenFrom(round, 1).equals(pairs) ? 2 : 0;
    }

    private List<List<Integer>> withinPicture() {
        List<List<Integer>> list = new ArrayList<>();
        for (List<Integer> round : rounds(bitsOf(picture))) {
            if (seenOf(round) != 0) {
                list.add(round);
            }
        }
        return list;
    }

    int within() {
        return withinPicture().size();
    }

    int guess() {
        List<List<Integer>> list = withinPicture();
        if (list.isEmpty()) {
            return -1;
        }
        way = list.get(0);
        return way.size();
    }

    int seen() {
        needWay();
        return seenOf(way);
    }

    int knot(int e, int what) {
        needWay();
        need(e >= 0 && e <= 999 && (what == 0 || what == 1));
        BigDecimal midst = length(way).divide(BigDecimal.valueOf(2), DIGITS);
        int found = -1;
        BigDecimal at = BigDecimal.ZERO;
        List<BigDecimal> spans = spans(way);
        for (int i = 0; i < spans.size(); i++) {
            BigDecimal end = at.add(spans.get(i));
            BigDecimal near = midst.max(at).min(end);
            if (compare(near.subtract(midst).abs(), BigDecimal.valueOf(e)) <= 0 && (found < 0 || what == 1)) {
                found = i;
            }
            at = end;
        }
        return found;
    }

    private int wear(List<Integer> round, int hole) {
        int i = round.indexOf(hole);
        if (i < 0) {
            return 0;
        }
        int n = round.size();
        return 1 + (across(hole, round.get((i + 1) % n)) ? 0 : 1) + (across(hole, round.get((i + n - 1) % n)) ? 0 : 1);
    }

    int wear(int hole) {
        needHole(hole);
        needWay();
        return wear(way, hole);
    }

    int keep() {
        needWay();
        if (kept.size() == 4) {
            return -1;
        }
        kept.add(way);
        return kept.size();
    }

    int drop() {
        int gone = kept.size();
        kept.clear();
        return gone;
    }

    int weeks(int weeks, int what) {
        need(weeks >= 1 && weeks <= 12 && (what == 0 || what == 1));
        if (kept.isEmpty()) {
            return -1;
        }
        int least = Integer.MAX_VALUE;
        int found = 0;
        int rows = (int) Math.pow(13, kept.size());
        for (int code = 0; code < rows; code++) {
            int[] row = new int[kept.size()];
            int rest = code;
            int sum = 0;
            int digits = 0;
            for (int i = row.length - 1; i >= 0; i--) {
                row[i] = rest % 13;
                rest /= 13;
                sum += row[i];
            }
            if (sum != weeks) {
                continue;
            }
            int most = 0;
            for (int hole = 0; hole < left + right; hole++) {
                int all = 0;
                for (int i = 0; i < row.length; i++) {
                    all += row[i] * wear(kept.get(i), hole);
                }
                most = Math.max(most, all);
            }
            for (int part : row) {
                digits = digits * 100 + part;
            }
            if (most < least) {
                least = most;
                found = digits;
            }
        }
        return what == 0 ? least : found;
    }

    int draw(int seed) {
        List<List<Integer>> list = rounds(whole());
        if (list.isEmpty()) {
            return -1;
        }
        way = list.get((int) (((seed & 0x7fffffffL) / 2) % list.size()));
        return way.size();
    }

    int image() {
        if (images.size() == 3) {
            return -1;
        }
        images.add(new Image(way, new ArrayList<>(picture), new ArrayList<>(kept)));
        return images.size();
    }

    int restore() {
        if (images.isEmpty()) {
            return -1;
        }
        Image last = images.remove(images.size() - 1);
        way = last.way();
        picture = new ArrayList<>(last.picture());
        kept = new ArrayList<>(last.kept());
        return images.size();
    }

    int sums(int what) {
        return what == 0 ? kept.size() : what == 1 ? picture.size() / 2 : what == 2 ? images.size() : what == 3 ? tape.size() : -1;
    }
}
