/**
 * A vault of moon stones: pieces, loans by rules, scales, gifts and asks, as ../shared/DOC.md promises.
 * Words in capitals are those of the document.
 */
public final class StoneVault {
    public static final int NONE = -1;

    private static final int LAST_DAY = 99999;
    private static final int MOST_WEIGHT = 1000000000;
    private static final int MOST_READ = 1000001000;
    private static final int MOST_SLIP = 1000;
    private static final int MOST_BITS = 65535;
    private static final int KINDS = 8;
    private static final int SITES = 10;
    private static final int CABINETS = 10;
    private static final int PIECES = 150;
    private static final int LENT = 10;
    private static final int GIVEN = 11;
    private static final int DONE = 12;
    private static final int UNFIT = -2;
    private static final int TOO_MUCH = -3;
    private static final int NO_DRIFT = -2000;

    private final int[] gases;
    private final Tape tape;
    private final Pieces pieces;
    private final Lending lending;
    private final RuleBook book;
    private final Scales scales;
    private final Mixture mixture;
    private final Travels travels;
    private final Asks asks;
    private int today;

    public StoneVault() {
        gases = new int[CABINETS];
        tape = new Tape();
        pieces = new Pieces();
        lending = new Lending();
        book = new RuleBook();
        scales = new Scales();
        mixture = new Mixture();
        travels = new Travels();
        asks = new Asks();
        today = 0;
    }

    public boolean now(int day) {
        if (!isDay(day) || day < today) {
            return false;
        }
        today = day;
        return true;
    }

    public boolean gas(int cabinet, int bits) {
        if (!isCabinet(cabinet) || !isBits(bits)) {
            return false;
        }
        gases[cabinet] = bits;
        return true;
    }

    public int stone(int kind, int site, int weight, int cabinet, boolean sealed) {
        if (!isKind(kind) || !isWithin(site, 0, SITES - 1) || !isWithin(weight, 1, MOST_WEIGHT)) {
            return NONE;
        }
        if (!isCabinet(cabinet) || !pieces.hasRoomFor(1)) {
            return NONE;
        }
        return pieces.bring(kind, site, weight, cabinet, sealed, today);
    }

    public boolean move(int p, int cabinet) {
        if (!isCabinet(cabinet) || !pieces.lies(p)) {
            return false;
        }
        int met = pieces.isSealed(p) ? 0 : gases[cabinet];
        pieces.change(p, pieces.weightOf(p), met, cabinet, today);
        return true;
    }

    public boolean open(int p) {
        if (!pieces.lies(p) || !pieces.isSealed(p)) {
            return false;
        }
        pieces.unseal(p);
        int cabinet = pieces.placeOf(p);
        pieces.change(p, pieces.weightOf(p), gasOf(cabinet), cabinet, today);
        return true;
    }

    public int feed(int a, int b, int c, int d, int e) {
        if (!tape.hasRoomFor(5)) {
            return NONE;
        }
        tape.append(a);
        tape.append(b);
        tape.append(c);
        tape.append(d);
        tape.append(e);
        return tape.length();
    }

    public int cut(int p, int saw, int n) {
        if (!isWithin(saw, 0, 15) || !isWithin(n, 2, 6)) {
            return NONE;
        }
        if (!pieces.isAtHand(p) || !tape.hasNumbers(n)) {
            return NONE;
        }
        int answer = cutByTape(p, saw, n);
        tape.wipe();
        return answer;
    }

    private int cutByTape(int p, int saw, int n) {
        long together = 0;
        for (int i = 0; i < n; i++) {
            int part = tape.number(i);
            if (part < 1) {
                return UNFIT;
            }
            together += part;
        }
        if (together > pieces.weightOf(p)) {
            return UNFIT;
        }
        if (!pieces.hasRoomFor(n)) {
            return TOO_MUCH;
        }
        int first = pieces.size();
        for (int i = 0; i < n; i++) {
            pieces.addPart(p, tape.number(i), 1 << saw, today);
        }
        pieces.charge(Pieces.LOST, p, pieces.weightOf(p) - together);
        pieces.change(p, 0, 0, DONE, today);
        return first;
    }

    public int trial(int p, int eaten, int bits) {
        if (!isBits(bits) || !pieces.isAtHand(p)) {
            return NONE;
        }
        int weight = pieces.weightOf(p);
        if (!isWithin(eaten, 0, weight)) {
            return NONE;
        }
        int left = weight - eaten;
        pieces.charge(Pieces.EATEN, p, eaten);
        pieces.change(p, left, bits, left == 0 ? DONE : pieces.placeOf(p), today);
        return left;
    }

    public int asker(int house, int field) {
        if (!isWithin(house, 0, 9) || !isWithin(field, 0, 7)) {
            return NONE;
        }
        return lending.addAsker(house, field);
    }

    public int rules(int from, int to, int n) {
        if (!isDay(from) || !isDay(to) || to < from || !isWithin(n, 1, RuleBook.BYTES)) {
            return NONE;
        }
        if (!book.hasRoom() || !tape.hasBytes(n)) {
            return NONE;
        }
        int answer = book.add(tape, n, from, to);
        tape.wipe();
        return answer;
    }

    public int lend(int p, int asker) {
        if (!pieces.isAtHand(p) || !lending.hasAsker(asker) || !lending.hasRoom()) {
            return NONE;
        }
        tellLetters(p, asker);
        book.apply(today);
        if (book.isBarred()) {
            return UNFIT;
        }
        if (keepsTooLittle(p, book.thousandths())) {
            return TOO_MUCH;
        }
        int last = Math.min(LAST_DAY, today + book.days());
        pieces.change(p, pieces.weightOf(p), 0, LENT, today);
        return lending.begin(p, asker, today, last);
    }

    private void tellLetters(int p, int asker) {
        int kind = pieces.kindOf(p);
        book.tell('f', lending.fieldOf(asker));
        book.tell('h', lending.houseOf(asker));
        book.tell('k', kind);
        book.tell('w', pieces.weightOf(p));
        book.tell('m', Integer.bitCount(pieces.metOf(p)));
        book.tell('l', pieces.weightIn(kind, 0, CABINETS - 1, false));
        book.tell('a', lending.loansOut(asker));
        book.tell('s', lending.missingBy(asker));
        book.tell('d', today);
    }

    private boolean keepsTooLittle(int p, int thousandths) {
        if (pieces.metOf(p) != 0) {
            return false;
        }
        int kind = pieces.kindOf(p);
        long kept = pieces.weightIn(kind, 0, CABINETS - 1, true) - pieces.weightOf(p);
        return kept * 1000 < thousandths * pieces.charged(Pieces.CAME, kind);
    }

    public int back(int i, int weight, int eaten, int bits, int cabinet) {
        if (!lending.isOut(i) || !isBits(bits) || !isCabinet(cabinet)) {
            return NONE;
        }
        int p = lending.pieceOf(i);
        int had = pieces.weightOf(p);
        if (!isWithin(weight, 0, had) || !isWithin(eaten, 0, had - weight)) {
            return NONE;
        }
        int missing = had - weight - eaten;
        pieces.charge(Pieces.EATEN, p, eaten);
        pieces.charge(Pieces.MISSING, p, missing);
        pieces.change(p, weight, bits, weight == 0 ? DONE : cabinet, today);
        lending.end(i, today, missing);
        return missing;
    }

    public int loan(int i, int what) {
        return lending.tell(i, what, today);
    }

    public int piece(int p, int what) {
        return pieces.tell(p, what);
    }

    public int was(int p, int day, int what) {
        if (!pieces.has(p) || !isWithin(day, 0, today)) {
            return NONE;
        }
        return pieces.tellPast(p, day, what);
    }

    public boolean weigh(int p, int scale, int read, int slip) {
        if (!isWithin(scale, 0, Scales.SCALES - 1) || !isWithin(read, 0, MOST_READ) || !isWithin(slip, 0, MOST_SLIP)) {
            return false;
        }
        if (!pieces.lies(p) || !scales.hasRoom()) {
            return false;
        }
        int off = read - pieces.weightOf(p);
        scales.add(scale, today, off - slip, off + slip);
        return true;
    }

    public int drifts(int scale, int t, int what) {
        if (!isWithin(scale, 0, Scales.SCALES - 1) || !isDay(t)) {
            return NO_DRIFT;
        }
        return scales.tell(scale, t, what);
    }

    public int found(int n) {
        if (!isWithin(n, 1, Mixture.THINGS) || !tape.hasNumbers(4 * n)) {
            return NONE;
        }
        boolean fit = areMixed(n) && areThings(n);
        int answer = fit ? mixture.answer(tape, pieces, n) : UNFIT;
        tape.wipe();
        return answer;
    }

    private boolean areMixed(int n) {
        for (int i = 0; i < n; i++) {
            int p = tape.number(i);
            if (!pieces.has(p) || pieces.placeOf(p) == DONE) {
                return false;
            }
            for (int j = 0; j < i; j++) {
                if (tape.number(j) == p) {
                    return false;
                }
            }
        }
        return true;
    }

    private boolean areThings(int n) {
        for (int i = 0; i < n; i++) {
            int first = n + 3 * i;
            boolean fit = isWithin(tape.number(first), 0, MOST_READ)
                    && isWithin(tape.number(first + 1), 0, MOST_SLIP)
                    && isWithin(tape.number(first + 2), 0, KINDS);
            if (!fit) {
                return false;
            }
        }
        return true;
    }

    public int thing(int i, int what) {
        return mixture.tell(i, what);
    }

    public boolean way(int a, int b, int days) {
        if (!isPlace(a) || !isPlace(b) || a == b || !isWithin(days, 1, 1000)) {
            return false;
        }
        travels.connect(a, b, days);
        return true;
    }

    public int give(int p, int land, int place) {
        if (!isWithin(land, 0, 99) || !isPlace(place)) {
            return NONE;
        }
        if (!pieces.isAtHand(p) || !travels.hasRoomForGift()) {
            return NONE;
        }
        pieces.change(p, pieces.weightOf(p), 0, GIVEN, today);
        return travels.begin(place, today);
    }

    public boolean sight(int g, int place, int day) {
        if (!travels.hasGift(g) || !isPlace(place) || !travels.hasRoomForSight()) {
            return false;
        }
        if (!isWithin(day, travels.givenOn(g), today)) {
            return false;
        }
        travels.see(g, place, day);
        return true;
    }

    public int where(int g, int day) {
        if (!travels.hasGift(g) || !isWithin(day, travels.givenOn(g), today)) {
            return NONE;
        }
        return travels.placesOn(g, day);
    }

    public int ask(int weight, int worth, int question) {
        if (!isWithin(weight, 1, MOST_WEIGHT) || !isWithin(worth, 1, 1000) || !isBits(question)) {
            return NONE;
        }
        return asks.add(weight, worth, question);
    }

    public int clear() {
        return asks.putAway();
    }

    public boolean loss(int n) {
        if (!isWithin(n, 0, 1000000)) {
            return false;
        }
        asks.setLoss(n);
        return true;
    }

    public long best(int kind, int what) {
        boolean known = what == NONE || what == Asks.LOSSES || asks.has(what);
        if (!isKind(kind) || !known) {
            return NONE;
        }
        takeStock(kind);
        asks.findBest();
        return asks.tellBest(what);
    }

    public int judge(int kind, int row) {
        if (!isKind(kind) || !asks.isRow(row)) {
            return NONE;
        }
        takeStock(kind);
        return asks.worthOfRow(row);
    }

    private void takeStock(int kind) {
        asks.emptyStock();
        for (int p = 0; p < pieces.size(); p++) {
            if (pieces.isAtHand(p) && pieces.kindOf(p) == kind) {
                asks.addToStock(pieces.weightOf(p), pieces.metOf(p));
            }
        }
    }

    public int next(int kind, int question, int weight) {
        if (!isKind(kind) || !isBits(question) || !isWithin(weight, 1, MOST_WEIGHT)) {
            return NONE;
        }
        int chosen = NONE;
        for (int p = 0; p < pieces.size(); p++) {
            boolean fit = pieces.isAtHand(p) && pieces.kindOf(p) == kind
                    && (pieces.metOf(p) & question) == 0 && pieces.weightOf(p) >= weight;
            if (fit && (chosen == NONE || isSooner(p, chosen))) {
                chosen = p;
            }
        }
        return chosen;
    }

    private boolean isSooner(int p, int other) {
        int bits = Integer.bitCount(pieces.metOf(p));
        int otherBits = Integer.bitCount(pieces.metOf(other));
        if (bits != otherBits) {
            return bits < otherBits;
        }
        return pieces.weightOf(p) < pieces.weightOf(other);
    }

    public int check(int n) {
        if (!isWithin(n, 0, Tape.BYTES) || !tape.hasNumbers(3 * n)) {
            return UNFIT;
        }
        int answer = firstNotSo(3 * n);
        tape.wipe();
        return answer;
    }

    private int firstNotSo(int numbers) {
        int i = 0;
        for (int p = 0; p < pieces.size(); p++) {
            if (pieces.lies(p)) {
                if (i >= numbers) {
                    return numbers;
                }
                if (tape.number(i) != p) {
                    return i;
                }
                if (tape.number(i + 1) != pieces.placeOf(p)) {
                    return i + 1;
                }
                if (tape.number(i + 2) != pieces.weightOf(p)) {
                    return i + 2;
                }
                i += 3;
            }
        }
        return i < numbers ? i : NONE;
    }

    public long sum(int kind, int what) {
        if (!isWithin(kind, NONE, KINDS - 1)) {
            return NONE;
        }
        switch (what) {
            case 0: return pieces.charged(Pieces.CAME, kind);
            case 1: return pieces.weightIn(kind, 0, CABINETS - 1, false);
            case 2: return pieces.weightIn(kind, LENT, LENT, false);
            case 3: return pieces.weightIn(kind, GIVEN, GIVEN, false);
            case 4: return pieces.charged(Pieces.LOST, kind);
            case 5: return pieces.charged(Pieces.EATEN, kind);
            case 6: return pieces.charged(Pieces.MISSING, kind);
            case 7: return pieces.weightIn(kind, 0, CABINETS - 1, true);
            default: return NONE;
        }
    }

    public int count(int what) {
        if (isWithin(what, 20, 39)) {
            return book.clausesOf(what - 20);
        }
        if (isWithin(what, 40, 40 + CABINETS - 1)) {
            return gasOf(what - 40);
        }
        switch (what) {
            case 0: return today;
            case 1: return pieces.size();
            case 2: return lending.askerCount();
            case 3: return book.size();
            case 4: return lending.loanCount();
            case 5: return scales.size();
            case 6: return travels.giftCount();
            case 7: return travels.sightCount();
            case 8: return asks.size();
            case 9: return tape.length();
            default: return NONE;
        }
    }

    private int gasOf(int cabinet) {
        return isCabinet(cabinet) ? gases[cabinet] : NONE;
    }

    private static boolean isWithin(int n, int least, int greatest) {
        return n >= least && n <= greatest;
    }

    private static boolean isDay(int n) {
        return isWithin(n, 0, LAST_DAY);
    }

    private static boolean isKind(int n) {
        return isWithin(n, 0, KINDS - 1);
    }

    private static boolean isCabinet(int n) {
        return isWithin(n, 0, CABINETS - 1);
    }

    private static boolean isPlace(int n) {
        return isWithin(n, 0, Travels.PLACES - 1);
    }

    private static boolean isBits(int n) {
        return isWithin(n, 0, MOST_BITS);
    }

    /** The bytes that were fed and not yet used. */
    private static final class Tape {
        static final int BYTES = 400;

        private final char[] bytes;
        private int length;

        Tape() {
            bytes = new char[BYTES];
            length = 0;
        }

        int length() {
            return length;
        }

        boolean hasRoomFor(int numbers) {
            return length + 4 * numbers <= BYTES;
        }

        boolean hasBytes(int n) {
            return n <= length;
        }

        boolean hasNumbers(int n) {
            return 4 * n <= length;
        }

        void append(int number) {
            for (int shift = 24; shift >= 0; shift -= 8) {
                if (length < BYTES) {
                    bytes[length] = (char) (number >> shift & 255);
                    length++;
                }
            }
        }

        char byteAt(int i) {
            return i >= 0 && i < length ? bytes[i] : 0;
        }

        int number(int i) {
            int number = 0;
            for (int j = 4 * i; j < 4 * i + 4; j++) {
                number = number << 8 | byteAt(j);
            }
            return number;
        }

        void wipe() {
            length = 0;
        }
    }

    /** All PIECES, and by KIND what came, and what is gone for good. */
    private static final class Pieces {
        static final int CAME = 0;
        static final int LOST = 1;
        static final int EATEN = 2;
        static final int MISSING = 3;

        private final int[] kinds;
        private final int[] sites;
        private final int[] weights;
        private final int[] mets;
        private final int[] places;
        private final int[] parents;
        private final int[] roots;
        private final boolean[] seals;
        private final long[] charges;
        private final Diary diary;
        private int size;

        Pieces() {
            kinds = new int[PIECES];
            sites = new int[PIECES];
            weights = new int[PIECES];
            mets = new int[PIECES];
            places = new int[PIECES];
            parents = new int[PIECES];
            roots = new int[PIECES];
            seals = new boolean[PIECES];
            charges = new long[4 * KINDS];
            diary = new Diary();
            size = 0;
        }

        int size() {
            return size;
        }

        boolean has(int p) {
            return p >= 0 && p < size && p < PIECES;
        }

        boolean hasRoomFor(int n) {
            return size + n <= PIECES;
        }

        int kindOf(int p) {
            return has(p) ? kinds[p] : NONE;
        }

        int weightOf(int p) {
            return has(p) ? weights[p] : 0;
        }

        int metOf(int p) {
            return has(p) ? mets[p] : 0;
        }

        int placeOf(int p) {
            return has(p) ? places[p] : NONE;
        }

        boolean isSealed(int p) {
            return has(p) && seals[p];
        }

        boolean lies(int p) {
            return has(p) && places[p] < CABINETS;
        }

        /** Lies in a CABINET and is not SEALED: what can be cut, tried, lent and given. */
        boolean isAtHand(int p) {
            return lies(p) && !isSealed(p);
        }

        int bring(int kind, int site, int weight, int cabinet, boolean sealed, int day) {
            int p = size;
            if (p < 0 || p >= PIECES) {
                return NONE;
            }
            size++;
            kinds[p] = kind;
            sites[p] = site;
            mets[p] = 0;
            seals[p] = sealed;
            parents[p] = NONE;
            roots[p] = p;
            charge(CAME, p, weight);
            change(p, weight, 0, cabinet, day);
            return p;
        }

        void addPart(int whole, int weight, int saw, int day) {
            int p = size;
            if (!has(whole) || p >= PIECES) {
                return;
            }
            size++;
            kinds[p] = kinds[whole];
            sites[p] = sites[whole];
            mets[p] = mets[whole];
            seals[p] = false;
            parents[p] = whole;
            roots[p] = roots[whole];
            change(p, weight, saw, places[whole], day);
        }

        /** The one door for what a DAY must remember: no change of these goes past the diary. */
        void change(int p, int weight, int newlyMet, int place, int day) {
            if (!has(p)) {
                return;
            }
            weights[p] = weight;
            mets[p] |= newlyMet;
            places[p] = place;
            diary.write(p, day, weight, mets[p], place);
        }

        void unseal(int p) {
            if (has(p)) {
                seals[p] = false;
            }
        }

        void charge(int account, int p, long weight) {
            int i = account * KINDS + kindOf(p);
            if (i >= 0 && i < charges.length) {
                charges[i] += weight;
            }
        }

        long charged(int account, int kind) {
            long total = 0;
            for (int k = 0; k < KINDS; k++) {
                int i = account * KINDS + k;
                if ((kind == NONE || kind == k) && i >= 0 && i < charges.length) {
                    total += charges[i];
                }
            }
            return total;
        }

        long weightIn(int kind, int firstPlace, int lastPlace, boolean unmetOnly) {
            long total = 0;
            for (int p = 0; p < size; p++) {
                boolean counts = (kind == NONE || kindOf(p) == kind)
                        && isWithin(placeOf(p), firstPlace, lastPlace)
                        && (!unmetOnly || metOf(p) == 0);
                if (counts) {
                    total += weightOf(p);
                }
            }
            return total;
        }

        int tell(int p, int what) {
            if (!has(p)) {
                return NONE;
            }
            switch (what) {
                case 0: return kinds[p];
                case 1: return sites[p];
                case 2: return weights[p];
                case 3: return mets[p];
                case 4: return places[p];
                case 5: return parents[p];
                case 6: return roots[p];
                case 7: return seals[p] ? 1 : 0;
                default: return NONE;
            }
        }

        int tellPast(int p, int day, int what) {
            return diary.tell(p, day, what);
        }
    }

    /** Every change of a PIECE, in the order of the calls. */
    private static final class Diary {
        /** One change a call in 512 calls, and one more for each PIECE that a cut makes. */
        private static final int PAGES = 512 + PIECES;

        private final int[] pieces;
        private final int[] days;
        private final int[] weights;
        private final int[] mets;
        private final int[] places;
        private int size;

        Diary() {
            pieces = new int[PAGES];
            days = new int[PAGES];
            weights = new int[PAGES];
            mets = new int[PAGES];
            places = new int[PAGES];
            size = 0;
        }

        void write(int p, int day, int weight, int met, int place) {
            if (size < 0 || size >= PAGES) {
                return;
            }
            pieces[size] = p;
            days[size] = day;
            weights[size] = weight;
            mets[size] = met;
            places[size] = place;
            size++;
        }

        int tell(int p, int day, int what) {
            int i = latest(p, day);
            if (i < 0 || i >= size) {
                return NONE;
            }
            switch (what) {
                case 2: return weights[i];
                case 3: return mets[i];
                case 4: return places[i];
                default: return NONE;
            }
        }

        private int latest(int p, int day) {
            int latest = NONE;
            for (int i = 0; i < size && i < PAGES; i++) {
                if (pieces[i] == p && days[i] <= day) {
                    latest = i;
                }
            }
            return latest;
        }
    }

    /** ASKERS, and the LOANS that they have or had. */
    private static final class Lending {
        private static final int ASKERS = 20;
        private static final int LOANS = 100;

        private final int[] houses;
        private final int[] fields;
        private int askers;
        private final int[] lentPieces;
        private final int[] borrowers;
        private final int[] firstDays;
        private final int[] lastDays;
        private final int[] backDays;
        private final int[] missing;
        private int loans;

        Lending() {
            houses = new int[ASKERS];
            fields = new int[ASKERS];
            askers = 0;
            lentPieces = new int[LOANS];
            borrowers = new int[LOANS];
            firstDays = new int[LOANS];
            lastDays = new int[LOANS];
            backDays = new int[LOANS];
            missing = new int[LOANS];
            loans = 0;
        }

        int addAsker(int house, int field) {
            int number = askers;
            if (number < 0 || number >= ASKERS) {
                return NONE;
            }
            houses[number] = house;
            fields[number] = field;
            askers++;
            return number;
        }

        int askerCount() {
            return askers;
        }

        boolean hasAsker(int asker) {
            return asker >= 0 && asker < askers && asker < ASKERS;
        }

        int houseOf(int asker) {
            return hasAsker(asker) ? houses[asker] : NONE;
        }

        int fieldOf(int asker) {
            return hasAsker(asker) ? fields[asker] : NONE;
        }

        int loanCount() {
            return loans;
        }

        boolean hasRoom() {
            return loans < LOANS;
        }

        private boolean hasLoan(int i) {
            return i >= 0 && i < loans && i < LOANS;
        }

        boolean isOut(int i) {
            return hasLoan(i) && backDays[i] == NONE;
        }

        int pieceOf(int i) {
            return hasLoan(i) ? lentPieces[i] : NONE;
        }

        int begin(int p, int asker, int first, int last) {
            int i = loans;
            if (i < 0 || i >= LOANS) {
                return NONE;
            }
            lentPieces[i] = p;
            borrowers[i] = asker;
            firstDays[i] = first;
            lastDays[i] = last;
            backDays[i] = NONE;
            missing[i] = 0;
            loans++;
            return i;
        }

        void end(int i, int day, int missingNow) {
            if (hasLoan(i)) {
                backDays[i] = day;
                missing[i] = missingNow;
            }
        }

        int loansOut(int asker) {
            int out = 0;
            for (int i = 0; i < loans; i++) {
                if (isOut(i) && borrowers[i] == asker) {
                    out++;
                }
            }
            return out;
        }

        long missingBy(int asker) {
            long total = 0;
            for (int i = 0; i < loans; i++) {
                if (hasLoan(i) && borrowers[i] == asker) {
                    total += missing[i];
                }
            }
            return total;
        }

        int tell(int i, int what, int today) {
            if (!hasLoan(i)) {
                return NONE;
            }
            switch (what) {
                case 0: return lentPieces[i];
                case 1: return borrowers[i];
                case 2: return firstDays[i];
                case 3: return lastDays[i];
                case 4: return backDays[i];
                case 5: return missing[i];
                case 6: return isOut(i) && today > lastDays[i] ? 1 : 0;
                default: return NONE;
            }
        }
    }

    /** All RULES, and what those in FORCE on a DAY say of one LOAN. */
    private static final class RuleBook {
        static final int BYTES = RuleReader.BYTES;
        private static final int RULES = 20;
        private static final int CLAUSES = RuleReader.CLAUSES;

        private final char[] texts;
        private final int[] lengths;
        private final int[] firstDays;
        private final int[] lastDays;
        private final int[] clauses;
        private final int[] starts;
        private final int[] struck;
        private final RuleReader reader;
        private int size;
        private boolean barred;
        private int days;
        private int thousandths;

        RuleBook() {
            texts = new char[RULES * BYTES];
            lengths = new int[RULES];
            firstDays = new int[RULES];
            lastDays = new int[RULES];
            clauses = new int[RULES];
            starts = new int[RULES * CLAUSES];
            struck = new int[RULES];
            reader = new RuleReader();
            size = 0;
            barred = false;
            days = NONE;
            thousandths = NONE;
        }

        int size() {
            return size;
        }

        boolean hasRoom() {
            return size < RULES;
        }

        private boolean has(int rules) {
            return rules >= 0 && rules < size && rules < RULES;
        }

        int clausesOf(int rules) {
            return has(rules) ? clauses[rules] : NONE;
        }

        /** Room has been looked for: it writes into the place behind the last RULES, which count only without a FAULT. */
        int add(Tape tape, int n, int from, int to) {
            int rules = size;
            if (tape == null || rules < 0 || rules >= RULES || n > BYTES) {
                return NONE;
            }
            for (int i = 0; i < n; i++) {
                texts[rules * BYTES + i] = tape.byteAt(i);
            }
            reader.turnTo(texts, rules * BYTES, n);
            reader.survey();
            if (reader.hasFault()) {
                return reader.faultAnswer();
            }
            lengths[rules] = n;
            firstDays[rules] = from;
            lastDays[rules] = to;
            clauses[rules] = reader.clauseCount();
            for (int j = 0; j < CLAUSES; j++) {
                starts[rules * CLAUSES + j] = reader.startOf(j);
            }
            size++;
            return rules;
        }

        void tell(char letter, long value) {
            reader.setLetter(letter, value);
        }

        /** From the highest RULES down, so that all that can strike a CLAUSE has been read before it. */
        void apply(int day) {
            barred = false;
            days = NONE;
            thousandths = NONE;
            for (int r = 0; r < RULES; r++) {
                struck[r] = 0;
            }
            for (int r = size - 1; r >= 0; r--) {
                if (isInForce(r, day)) {
                    applyOne(r, day);
                }
            }
        }

        boolean isBarred() {
            return barred;
        }

        int days() {
            return days == NONE ? 30 : days;
        }

        int thousandths() {
            return thousandths == NONE ? 0 : thousandths;
        }

        private boolean isInForce(int rules, int day) {
            return has(rules) && isWithin(day, firstDays[rules], lastDays[rules]);
        }

        private void applyOne(int rules, int day) {
            if (!has(rules)) {
                return;
            }
            int ownDays = NONE;
            int ownThousandths = NONE;
            reader.turnTo(texts, rules * BYTES, lengths[rules]);
            for (int j = 0; j < clauses[rules] && j < CLAUSES; j++) {
                if ((struck[rules] >> j & 1) != 0) {
                    continue;
                }
                reader.goTo(starts[rules * CLAUSES + j]);
                boolean holds = reader.readClause(true);
                switch (reader.letter()) {
                    case 'x': strike(rules, day); break;
                    case 'b': barred = barred || holds; break;
                    case 'd': ownDays = holds ? reader.first() : ownDays; break;
                    case 't': ownThousandths = holds ? reader.first() : ownThousandths; break;
                    default: break;
                }
            }
            days = days == NONE ? ownDays : days;
            thousandths = thousandths == NONE ? ownThousandths : thousandths;
        }

        /** By the x that the reader read last. */
        private void strike(int rules, int day) {
            int target = reader.first();
            if (target < rules && isInForce(target, day)) {
                struck[target] |= 1 << reader.second();
            }
        }
    }

    /** Reads one text of RULES from the left: for its FAULTS, or, where it has none, what a CLAUSE says. */
    private static final class RuleReader {
        static final int BYTES = 160;
        static final int CLAUSES = 12;
        private static final int OPEN = 6;
        private static final int DIGITS = 6;
        private static final int MOST_KEPT = 1000;
        private static final int MOST_DAYS = 999999;
        private static final int MOST_RULES = 19;
        private static final int END = -1;
        private static final String LETTERS = "fhkwmlasd";

        private final char[] text;
        private final int[] starts;
        private final long[] values;
        private int end;
        private int at;
        private int clauses;
        private int fault;
        private int faultPlace;
        private int letter;
        private int first;
        private int second;
        private boolean refused;

        RuleReader() {
            text = new char[BYTES];
            starts = new int[CLAUSES];
            values = new long[9];
            end = 0;
            at = 0;
            clauses = 0;
            fault = 0;
            faultPlace = 0;
            letter = END;
            first = 0;
            second = 0;
            refused = false;
        }

        void setLetter(char sign, long value) {
            int i = LETTERS.indexOf(sign);
            if (i >= 0 && i < values.length) {
                values[i] = value;
            }
        }

        void turnTo(char[] source, int from, int n) {
            end = 0;
            for (int i = 0; i < n && i < BYTES; i++) {
                int j = from + i;
                if (source != null && j >= 0 && j < source.length) {
                    text[i] = source[j];
                    end = i + 1;
                }
            }
            at = 0;
            fault = 0;
        }

        void survey() {
            clauses = 0;
            boolean more = true;
            for (int i = 0; i <= CLAUSES && more; i++) {
                if (i < CLAUSES) {
                    starts[i] = at;
                    clauses = i + 1;
                    readClause(false);
                } else if (isClauseLetter(sign())) {
                    fail(4, at);
                } else {
                    fail(1, at);
                }
                more = take(';');
            }
            if (at < end) {
                fail(1, at);
            }
        }

        boolean hasFault() {
            return fault != 0;
        }

        int faultAnswer() {
            return -1000 * fault - faultPlace;
        }

        int clauseCount() {
            return clauses;
        }

        int startOf(int clause) {
            return clause >= 0 && clause < CLAUSES ? starts[clause] : 0;
        }

        int letter() {
            return letter;
        }

        /** N of d and t, I of x. */
        int first() {
            return first;
        }

        /** J of x. */
        int second() {
            return second;
        }

        void goTo(int place) {
            at = place;
        }

        /** Whether it holds, if that is asked. */
        boolean readClause(boolean asked) {
            refused = false;
            letter = sign();
            if (!isClauseLetter(letter)) {
                fail(1, at);
                return false;
            }
            at++;
            if (letter == 'x') {
                first = readTold(MOST_RULES);
                require('.');
                second = readTold(CLAUSES - 1);
                return false;
            }
            if (letter != 'b') {
                first = readTold(letter == 't' ? MOST_KEPT : MOST_DAYS);
            }
            require('(');
            boolean holds = readAny(1, asked);
            require(')');
            return holds && !refused;
        }

        private static boolean isClauseLetter(int sign) {
            return sign == 'b' || sign == 'd' || sign == 't' || sign == 'x';
        }

        /** C. What no longer matters is read, but not asked. */
        private boolean readAny(int open, boolean asked) {
            boolean holds = readAll(open, asked);
            for (int i = 0; i < BYTES && take('|'); i++) {
                boolean part = readAll(open, asked && !holds);
                holds = holds || part;
            }
            return holds;
        }

        private boolean readAll(int open, boolean asked) {
            boolean holds = readSingle(open, asked);
            for (int i = 0; i < BYTES && take('&'); i++) {
                boolean single = readSingle(open, asked && holds);
                holds = holds && single;
            }
            return holds;
        }

        private boolean readSingle(int open, boolean asked) {
            int sign = sign();
            if (sign != '!' && sign != '(') {
                long left = readSum(open, asked);
                int order = readOrder();
                return areSo(left, order, readSum(open, asked));
            }
            if (open >= OPEN) {
                fail(5, at);
                return false;
            }
            at++;
            if (sign == '!') {
                return !readSingle(open + 1, asked);
            }
            boolean holds = readAny(open + 1, asked);
            require(')');
            return holds;
        }

        private int readOrder() {
            int order = sign();
            if (order == '<' || order == '>' || order == '=') {
                at++;
            } else {
                fail(1, at);
            }
            return order;
        }

        private static boolean areSo(long left, int order, long right) {
            if (order == '<') {
                return left < right;
            }
            return order == '>' ? left > right : left == right;
        }

        private long readSum(int open, boolean asked) {
            long value = readProduct(open, asked);
            for (int i = 0; i < BYTES && (sign() == '+' || sign() == '-'); i++) {
                boolean plus = sign() == '+';
                at++;
                long term = readProduct(open, asked);
                value = plus ? value + term : value - term;
            }
            return value;
        }

        private long readProduct(int open, boolean asked) {
            long value = readFactor(open, asked);
            for (int i = 0; i < BYTES && (sign() == '*' || sign() == '/' || sign() == '%'); i++) {
                int sign = sign();
                at++;
                long factor = readFactor(open, asked);
                if (sign == '*') {
                    value *= factor;
                } else if (factor == 0) {
                    refused = refused || asked;
                } else {
                    value = sign == '/' ? value / factor : value % factor;
                }
            }
            return value;
        }

        private long readFactor(int open, boolean asked) {
            int sign = sign();
            if (isDigit(sign)) {
                return readDigits();
            }
            if (sign == '[') {
                if (open >= OPEN) {
                    fail(5, at);
                    return 0;
                }
                at++;
                long value = readSum(open + 1, asked);
                require(']');
                return value;
            }
            int i = sign == END ? NONE : LETTERS.indexOf((char) sign);
            if (i < 0 || i >= values.length) {
                fail(1, at);
                return 0;
            }
            at++;
            return values[i];
        }

        private int readTold(int most) {
            int place = at;
            int number = readDigits();
            if (number > most) {
                fail(3, place);
            }
            return number;
        }

        private int readDigits() {
            int number = 0;
            int digits = 0;
            while (digits < DIGITS && isDigit(sign())) {
                number = 10 * number + sign() - '0';
                digits++;
                at++;
            }
            if (digits == 0) {
                fail(1, at);
            } else if (isDigit(sign())) {
                fail(2, at);
            }
            return number;
        }

        private static boolean isDigit(int sign) {
            return sign >= '0' && sign <= '9';
        }

        /** After a FAULT all stands at the end, so that the reading runs out. */
        private int sign() {
            return fault == 0 && at >= 0 && at < end && at < BYTES ? text[at] : END;
        }

        private boolean take(char wanted) {
            if (sign() != wanted) {
                return false;
            }
            at++;
            return true;
        }

        private void require(char wanted) {
            if (sign() == wanted) {
                at++;
            } else {
                fail(1, at);
            }
        }

        private void fail(int number, int place) {
            if (fault == 0) {
                fault = number;
                faultPlace = place;
            }
        }
    }

    /** What was WEIGHED, kept as the least and the greatest DRIFT that FITS it. */
    private static final class Scales {
        static final int SCALES = 4;
        private static final int WEIGHED = 200;
        private static final int MOST_DRIFT = 1000;

        private final int[] used;
        private final int[] days;
        private final int[] least;
        private final int[] greatest;
        private int size;

        Scales() {
            used = new int[WEIGHED];
            days = new int[WEIGHED];
            least = new int[WEIGHED];
            greatest = new int[WEIGHED];
            size = 0;
        }

        int size() {
            return size;
        }

        boolean hasRoom() {
            return size < WEIGHED;
        }

        void add(int scale, int day, int leastDrift, int greatestDrift) {
            if (size < 0 || size >= WEIGHED) {
                return;
            }
            used[size] = scale;
            days[size] = day;
            least[size] = leastDrift;
            greatest[size] = greatestDrift;
            size++;
        }

        int tell(int scale, int day, int what) {
            int low = -MOST_DRIFT;
            int high = MOST_DRIFT;
            for (int i = 0; i < size && i < WEIGHED; i++) {
                if (used[i] == scale && days[i] <= day) {
                    low = Math.max(low, least[i]);
                    high = Math.min(high, greatest[i]);
                }
            }
            switch (what) {
                case 0: return low > high ? 0 : high - low + 1;
                case 1: return low > high ? NO_DRIFT : low;
                case 2: return low > high ? NO_DRIFT : high;
                default: return NO_DRIFT;
            }
        }
    }

    /** The PIECES that were MIXED last, and which of them each thing may be. */
    private static final class Mixture {
        static final int THINGS = 6;

        private final int[] mixed;
        private final int[] fits;
        private final int[] may;
        private int size;

        Mixture() {
            mixed = new int[THINGS];
            fits = new int[THINGS];
            may = new int[THINGS];
            size = 0;
        }

        /** The numbers of the tape have been looked at: they are such as FOUND can have. */
        int answer(Tape tape, Pieces pieces, int n) {
            if (tape == null || pieces == null || n < 0 || n > THINGS) {
                return NONE;
            }
            size = n;
            for (int i = 0; i < n; i++) {
                mixed[i] = tape.number(i);
            }
            sortMixed();
            for (int i = 0; i < n; i++) {
                int place = n + 3 * i;
                may[i] = 0;
                fits[i] = fitting(pieces, tape.number(place), tape.number(place + 1), tape.number(place + 2));
            }
            return countAnswers(0, 0);
        }

        /** By numbers, as MAY is told. */
        private void sortMixed() {
            for (int i = 1; i < size && i < THINGS; i++) {
                for (int j = i; j > 0 && mixed[j - 1] > mixed[j]; j--) {
                    int lower = mixed[j];
                    mixed[j] = mixed[j - 1];
                    mixed[j - 1] = lower;
                }
            }
        }

        private int fitting(Pieces pieces, int read, int slip, int kind) {
            int bits = 0;
            for (int j = 0; j < size && j < THINGS; j++) {
                int off = Math.abs(pieces.weightOf(mixed[j]) - read);
                if (off <= slip && (kind == KINDS || kind == pieces.kindOf(mixed[j]))) {
                    bits |= 1 << j;
                }
            }
            return bits;
        }

        private int countAnswers(int thing, int given) {
            if (thing < 0 || thing >= size || thing >= THINGS) {
                return 1;
            }
            int answers = 0;
            for (int j = 0; j < size; j++) {
                int bit = 1 << j;
                if ((fits[thing] & bit) != 0 && (given & bit) == 0) {
                    int rest = countAnswers(thing + 1, given | bit);
                    if (rest > 0) {
                        may[thing] |= bit;
                    }
                    answers += rest;
                }
            }
            return answers;
        }

        int tell(int i, int what) {
            if (i < 0 || i >= size || i >= THINGS || what < 0) {
                return NONE;
            }
            int pieces = Integer.bitCount(may[i]);
            if (what == 0) {
                return pieces == 1 ? nthOf(may[i], 0) : NONE;
            }
            return what == 1 ? pieces : nthOf(may[i], what - 2);
        }

        private int nthOf(int bits, int n) {
            int passed = 0;
            for (int j = 0; j < THINGS; j++) {
                if ((bits >> j & 1) != 0) {
                    if (passed == n) {
                        return mixed[j];
                    }
                    passed++;
                }
            }
            return NONE;
        }
    }

    /** WAYS between PLACES, and where GIFTS were told to be; the PLACE of giving is told like a SIGHT. */
    private static final class Travels {
        static final int PLACES = 16;
        private static final int GIFTS = 40;
        private static final int SIGHTS = 100;
        private static final int FAR = 1000000;
        private static final int SEVERAL = -2;

        private final int[] ways;
        private final int[] nearest;
        private final int[] givenDays;
        private final int[] toldGifts;
        private final int[] toldPlaces;
        private final int[] toldDays;
        private int gifts;
        private int told;

        Travels() {
            ways = new int[PLACES * PLACES];
            nearest = new int[PLACES];
            givenDays = new int[GIFTS];
            toldGifts = new int[GIFTS + SIGHTS];
            toldPlaces = new int[GIFTS + SIGHTS];
            toldDays = new int[GIFTS + SIGHTS];
            gifts = 0;
            told = 0;
        }

        int giftCount() {
            return gifts;
        }

        int sightCount() {
            return told - gifts;
        }

        boolean hasGift(int g) {
            return g >= 0 && g < gifts && g < GIFTS;
        }

        boolean hasRoomForGift() {
            return gifts < GIFTS;
        }

        boolean hasRoomForSight() {
            return sightCount() < SIGHTS;
        }

        int givenOn(int g) {
            return hasGift(g) ? givenDays[g] : NONE;
        }

        void connect(int a, int b, int days) {
            if (isPlace(a) && isPlace(b)) {
                ways[a * PLACES + b] = days;
                ways[b * PLACES + a] = days;
            }
        }

        int begin(int place, int day) {
            int g = gifts;
            if (g < 0 || g >= GIFTS) {
                return NONE;
            }
            givenDays[g] = day;
            gifts++;
            see(g, place, day);
            return g;
        }

        void see(int g, int place, int day) {
            if (told < 0 || told >= GIFTS + SIGHTS) {
                return;
            }
            toldGifts[told] = g;
            toldPlaces[told] = place;
            toldDays[told] = day;
            told++;
        }

        int placesOn(int g, int day) {
            int before = latestTold(g, day);
            int behind = nextTold(g, day);
            int from = placeTold(g, before);
            if (before == day) {
                return isPlace(from) ? 1 << from : 0;
            }
            if (!isPlace(from)) {
                return 0;
            }
            int places = reachable(from, day - before);
            if (behind == NONE) {
                return places;
            }
            int to = placeTold(g, behind);
            return isPlace(to) ? places & reachable(to, behind - day) : 0;
        }

        private int latestTold(int g, int day) {
            int latest = NONE;
            for (int i = 0; i < told && i < GIFTS + SIGHTS; i++) {
                if (toldGifts[i] == g && toldDays[i] <= day) {
                    latest = Math.max(latest, toldDays[i]);
                }
            }
            return latest;
        }

        private int nextTold(int g, int day) {
            int next = NONE;
            for (int i = 0; i < told && i < GIFTS + SIGHTS; i++) {
                if (toldGifts[i] == g && toldDays[i] > day) {
                    next = next == NONE ? toldDays[i] : Math.min(next, toldDays[i]);
                }
            }
            return next;
        }

        private int placeTold(int g, int day) {
            int place = NONE;
            for (int i = 0; i < told && i < GIFTS + SIGHTS; i++) {
                if (toldGifts[i] == g && toldDays[i] == day && toldPlaces[i] != place) {
                    place = place == NONE ? toldPlaces[i] : SEVERAL;
                }
            }
            return place;
        }

        /** WAYS go both ways, so it serves for where to and for where from. */
        private int reachable(int start, int days) {
            for (int i = 0; i < PLACES; i++) {
                nearest[i] = i == start ? 0 : FAR;
            }
            int settled = 0;
            for (int turn = 0; turn < PLACES; turn++) {
                int place = nearestBut(settled);
                if (isPlace(place) && nearest[place] <= days) {
                    settled |= 1 << place;
                    goOnFrom(place);
                }
            }
            return settled;
        }

        private int nearestBut(int settled) {
            int chosen = NONE;
            for (int i = 0; i < PLACES; i++) {
                if ((settled >> i & 1) == 0 && (chosen == NONE || nearest[i] < nearest[chosen])) {
                    chosen = i;
                }
            }
            return chosen;
        }

        private void goOnFrom(int place) {
            if (!isPlace(place)) {
                return;
            }
            for (int i = 0; i < PLACES; i++) {
                int days = ways[place * PLACES + i];
                if (days > 0) {
                    nearest[i] = Math.min(nearest[i], nearest[place] + days);
                }
            }
        }
    }

    /** ASKS, and the ROW that serves them best from the STOCK of one KIND. */
    private static final class Asks {
        static final int LOSSES = 10;
        private static final int ASKS = 6;
        private static final int STOCK = 4;
        private static final int UNSERVED = STOCK;

        private final int[] weights;
        private final int[] worths;
        private final int[] questions;
        private final int[] stockWeights;
        private final int[] stockMets;
        private final int[] row;
        private final int[] bestRow;
        private final int[] serving;
        private final long[] taken;
        private int size;
        private int stock;
        private int loss;
        private int bestWorth;
        private int bestLosses;

        Asks() {
            weights = new int[ASKS];
            worths = new int[ASKS];
            questions = new int[ASKS];
            stockWeights = new int[STOCK];
            stockMets = new int[STOCK];
            row = new int[ASKS];
            bestRow = new int[ASKS];
            serving = new int[STOCK];
            taken = new long[STOCK];
            size = 0;
            stock = 0;
            loss = 1000;
            bestWorth = NONE;
            bestLosses = 0;
        }

        int size() {
            return size;
        }

        boolean has(int ask) {
            return ask >= 0 && ask < size && ask < ASKS;
        }

        int add(int weight, int worth, int question) {
            int number = size;
            if (number < 0 || number >= ASKS) {
                return NONE;
            }
            weights[number] = weight;
            worths[number] = worth;
            questions[number] = question;
            size++;
            return number;
        }

        int putAway() {
            int were = size;
            size = 0;
            return were;
        }

        void setLoss(int n) {
            loss = n;
        }

        void emptyStock() {
            stock = 0;
        }

        void addToStock(int weight, int met) {
            if (stock >= 0 && stock < STOCK) {
                stockWeights[stock] = weight;
                stockMets[stock] = met;
                stock++;
            }
        }

        boolean isRow(int code) {
            int codes = 1;
            for (int i = 0; i < size; i++) {
                codes *= UNSERVED + 1;
            }
            return code >= 0 && code < codes;
        }

        int worthOfRow(int code) {
            serveNone();
            int rest = code;
            int worth = 0;
            for (int i = 0; i < size && i < ASKS; i++) {
                int place = rest % (UNSERVED + 1);
                rest /= UNSERVED + 1;
                if (!canServe(i, place)) {
                    return UNFIT;
                }
                serve(i, place);
                worth += place == UNSERVED ? 0 : worths[i];
            }
            return lossesOfRow() == NONE ? UNFIT : worth;
        }

        void findBest() {
            serveNone();
            bestWorth = NONE;
            bestLosses = 0;
            int open = 0;
            for (int i = 0; i < size && i < ASKS; i++) {
                open += worths[i];
            }
            search(0, 0, open);
        }

        long tellBest(int what) {
            if (what == NONE) {
                return bestWorth;
            }
            if (what == LOSSES) {
                return bestLosses;
            }
            return has(what) ? bestRow[what] : NONE;
        }

        private void serveNone() {
            for (int i = 0; i < STOCK; i++) {
                serving[i] = 0;
                taken[i] = 0;
            }
        }

        /** Goes through the rows from the least on, so that of like ones the first stays. */
        private void search(int i, int worth, int open) {
            if (worth + open < bestWorth) {
                return;
            }
            if (i < 0 || i >= size || i >= ASKS) {
                keepIfBetter(worth);
                return;
            }
            for (int place = 0; place <= UNSERVED; place++) {
                if (canServe(i, place)) {
                    serve(i, place);
                    search(i + 1, place == UNSERVED ? worth : worth + worths[i], open - worths[i]);
                    unserve(i, place);
                }
            }
        }

        private void keepIfBetter(int worth) {
            int losses = lossesOfRow();
            if (losses == NONE || worth < bestWorth || worth == bestWorth && losses >= bestLosses) {
                return;
            }
            bestWorth = worth;
            bestLosses = losses;
            for (int i = 0; i < ASKS; i++) {
                bestRow[i] = row[i];
            }
        }

        /** Counts the fewest cuts only, and so refuses no start of a RIGHT ROW. */
        private boolean canServe(int i, int place) {
            if (place == UNSERVED) {
                return true;
            }
            if (!has(i) || place < 0 || place >= stock || place >= STOCK) {
                return false;
            }
            long needed = taken[place] + weights[i] + (long) serving[place] * loss;
            return (stockMets[place] & questions[i]) == 0 && needed <= stockWeights[place];
        }

        private void serve(int i, int place) {
            if (!has(i)) {
                return;
            }
            row[i] = place;
            if (place >= 0 && place < STOCK) {
                serving[place]++;
                taken[place] += weights[i];
            }
        }

        private void unserve(int i, int place) {
            if (has(i) && place >= 0 && place < STOCK) {
                serving[place]--;
                taken[place] -= weights[i];
            }
        }

        /** NONE if some PIECE is less than what is served of it and the LOSSES. */
        private int lossesOfRow() {
            int losses = 0;
            for (int place = 0; place < STOCK; place++) {
                if (serving[place] > 0) {
                    long fewest = (long) (serving[place] - 1) * loss;
                    long left = stockWeights[place] - taken[place] - fewest;
                    boolean isUsedUp = left == 0;
                    if (!isUsedUp && left < loss) {
                        return NONE;
                    }
                    losses += (int) fewest + (isUsedUp ? 0 : loss);
                }
            }
            return losses;
        }
    }
}
