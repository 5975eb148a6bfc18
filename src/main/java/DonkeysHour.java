import java.util.NoSuchElementException;

/** Clocks whose wheels are walked round by donkeys; ../shared/DOC.md tells its promises by number. */
public final class DonkeysHour {
    public static final int NONE = -1;

    private static final int NOT_SO = -2;
    private static final int LOST = -3;

    private static final int MOST_DONKEYS = 3;
    private static final int LEAST_PLACES = 4;
    private static final int MOST_PLACES = 12;
    private static final int HOURS = 12;
    private static final int MOST_PACE = 4;
    private static final int BOOK_STROKES = 40;

    private static final int TEXT_SIGNS = 80;
    private static final int STABLE_SIGNS = 76;
    private static final int FLIES_SIGNS = 40;
    private static final int RULE_SIGNS = 40;
    private static final int DAY_SIGNS = 60;
    /** The shortest ACT and its ; have three signs. */
    private static final int MOST_ACTS = DAY_SIGNS / 3;
    private static final int MOST_BRACKETS = 4;

    private static final int MOST_CARROTS = 10;
    private static final int LAST_CARROT_MINUTE = 9999;
    private static final int MOST_CONTRACTS = 10;
    private static final int MOST_HEARD = 8;
    private static final int MOST_UNDONE = 10;
    private static final int MOST_KEPT = 2;
    private static final int MOST_ROW = 4;
    private static final int PEOPLE = 6;
    private static final int LAWS = 4;

    private static final int FAR = 600;
    /** How long an HOUR is that does not end within the MINUTES looked at. */
    private static final int ENDLESS = 601;
    private static final int MOST_STROKES_ASKED = 60;
    private static final int LAST_BRIBE_MINUTE = 60;
    private static final int LAST_BOY_MINUTE = 30;
    private static final int MOST_BID = 60;

    private static final int STRUCK = 1;
    private static final int ATE = 2;
    private static final int STOOD = 4;

    private final Text text = new Text();
    private final Scene scene = new Scene();
    private final Flies flies = new Flies();
    private final Rule rule = new Rule();
    private final Rule toldRule = new Rule();
    private final Acts acts = new Acts();
    private final Contracts contracts = new Contracts();
    private final Rumours rumours = new Rumours();
    private final History history = new History();
    private final Scene[] kept = new Scene[MOST_KEPT];
    private final Future future = new Future(rule, flies, scene.carrots);
    private final Future second = new Future(rule, flies, scene.carrots);
    private final int[] tally = new int[MOST_PLACES];
    private final int[] numbers = new int[MOST_ROW];
    private int numbersTold;

    public DonkeysHour() {
        for (int i = 0; i < kept.length; i++) {
            kept[i] = new Scene();
        }
    }

    // ---- the stable

    public int sign(int v) {
        return text.addFour(v) ? text.size : NONE;
    }

    public boolean end(int n) {
        return text.cut(n);
    }

    public int stable() {
        text.begin(STABLE_SIGNS);
        int lines = text.size == 0 ? 0 : readLines();
        text.empty();
        if (lines > 0) {
            scene.donkeys += lines;
            history.clear();
        }
        return lines;
    }

    public int flies() {
        text.begin(FLIES_SIGNS);
        int told = flies.read(text);
        text.empty();
        return told;
    }

    public int rule() {
        text.begin(RULE_SIGNS);
        boolean stands = toldRule.read(text);
        int wrong = text.wrong();
        text.empty();
        if (!stands) {
            return wrong;
        }
        rule.copy(toldRule);
        return 0;
    }

    public int donkey(int donkey, int what) throws NoSuchElementException {
        if (!isDonkey(donkey) || what < 0 || what > 6) {
            throw new NoSuchElementException("no such donkey, or nothing of it");
        }
        Beast beast = scene.beasts[donkey];
        switch (what) {
            case 0: return beast.hunger;
            case 1: return beast.place;
            case 2: return beast.strokes;
            case 3: return beast.strokes % HOURS;
            case 4: return beast.places;
            case 5: return beast.allThistles();
            default: return paceNow(beast, donkey);
        }
    }

    public int thistles(int donkey, int place) {
        return isPlace(donkey, place) ? scene.beasts[donkey].thistlesOn(place) : NONE;
    }

    public int sow(int donkey, int place, int v) {
        if (!isPlace(donkey, place) || v < 0 || v > 9) {
            return NONE;
        }
        Beast beast = scene.beasts[donkey];
        int were = beast.thistlesOn(place);
        beast.put(place, v);
        return were;
    }

    public int set(int donkey, int what, int v) {
        if (what == 0) {
            return setHunger(donkey, v);
        }
        if (what != 1 || !isPlace(donkey, v)) {
            return NONE;
        }
        Beast beast = scene.beasts[donkey];
        int was = beast.place;
        beast.place = v;
        return was;
    }

    public int sheet(int kind, int n, int f, int step) {
        if (kind < 0 || kind > 3 || n > MOST_PLACES || !isDonkey(0)) {
            return NONE;
        }
        boolean missing = kind == 3;
        if (!missing && n < 0) {
            return NOT_SO;
        }
        Beast beast = scene.beasts[0];
        int entry = f;
        for (int place = 0; place < beast.places; place++) {
            beast.put(place, !missing && place < n ? entryOf(kind, entry) : 0);
            entry += step;
        }
        return missing ? LOST : beast.allThistles();
    }

    public int carrot(int donkey, int from, int to, int how) {
        if (!isDonkey(donkey) || !isWay(how) || from < 0 || to < from || to > LAST_CARROT_MINUTE) {
            return NONE;
        }
        int number = scene.carrots.size;
        return scene.carrots.add(donkey, from, to, how) ? number : NOT_SO;
    }

    public int eat() {
        return scene.carrots.dropLatest() ? scene.carrots.size : NONE;
    }

    // ---- minutes

    public int minute() {
        int before = scene.allStrokes();
        history.prepare(scene, false);
        history.commit();
        int did = pass();
        newRow();
        tell(did & 7);
        tell(did >> MOST_DONKEYS);
        return scene.allStrokes() - before;
    }

    public int minutes(int n) {
        if (n < 0 || n > FAR) {
            return NONE;
        }
        if (n > 0) {
            history.prepare(scene, false);
            history.commit();
        }
        int strokesBefore = scene.allStrokes();
        int thistlesBefore = scene.allThistles();
        for (int i = 0; i < scene.donkeys && i < MOST_DONKEYS; i++) {
            tally[i] = scene.beasts[i].strokes;
        }
        passMany(n);
        newRow();
        tell(thistlesBefore - scene.allThistles());
        for (int i = 0; i < scene.donkeys && i < MOST_DONKEYS; i++) {
            tell(scene.beasts[i].strokes - tally[i]);
        }
        return scene.allStrokes() - strokesBefore;
    }

    public int day() {
        text.begin(DAY_SIGNS);
        boolean stands = acts.read(text);
        int wrong = text.wrong();
        text.empty();
        if (!stands) {
            return wrong;
        }
        int strokesBefore = scene.allStrokes();
        history.prepare(scene, true);
        int done = 0;
        while (done < acts.size && doAct(done)) {
            done++;
        }
        if (done > 0) {
            history.commit();
        }
        newRow();
        tell(done < acts.size ? 1 : 0);
        tell(scene.allStrokes() - strokesBefore);
        return done;
    }

    public int undo() {
        return history.takeBack(scene) ? history.size : NONE;
    }

    public int struck(int donkey, int n) {
        if (!isDonkey(donkey) || n < 1) {
            return NONE;
        }
        return scene.beasts[donkey].minuteOf(n);
    }

    public int took(int donkey, int n) {
        if (!isDonkey(donkey) || n < 1) {
            return NONE;
        }
        Beast beast = scene.beasts[donkey];
        int first = beast.minuteOf(n);
        if (first < 0) {
            return first;
        }
        int next = beast.minuteOf(n + 1);
        return next < 0 ? next : next - first;
    }

    public int longest(int donkey) {
        if (!isDonkey(donkey)) {
            return NONE;
        }
        Beast beast = scene.beasts[donkey];
        int oldest = Math.max(1, beast.strokes - BOOK_STROKES + 1);
        int longest = NONE;
        int most = 0;
        int shortest = NONE;
        int least = 0;
        for (int n = oldest; n < beast.strokes; n++) {
            int length = beast.minuteOf(n + 1) - beast.minuteOf(n);
            if (longest == NONE || length > most) {
                longest = n;
                most = length;
            }
            if (shortest == NONE || length < least) {
                shortest = n;
                least = length;
            }
        }
        if (longest == NONE) {
            return NOT_SO;
        }
        newRow();
        tell(most);
        tell(shortest);
        tell(least);
        return longest;
    }

    // ---- minutes to come

    public int ahead(int donkey, int n) {
        if (!isDonkey(donkey) || n < 0 || n > FAR) {
            return NONE;
        }
        look(future, donkey);
        future.run(n, FAR);
        newRow();
        tell(future.beast.place);
        tell(future.beast.hunger);
        return future.strokes;
    }

    public int when(int donkey, int k) {
        if (!isDonkey(donkey) || !isAskedStroke(k)) {
            return NONE;
        }
        look(future, donkey);
        int after = future.afterStroke(k);
        return after < 0 ? NOT_SO : after;
    }

    public int strikes(int donkey, int hour) {
        if (!isDonkey(donkey) || hour < 0 || hour >= HOURS) {
            return NONE;
        }
        look(future, donkey);
        int k = Math.floorMod(hour - future.beast.strokes - 1, HOURS) + 1;
        int after = future.afterStroke(k);
        if (after < 0) {
            return NOT_SO;
        }
        newRow();
        tell(k);
        return after;
    }

    public int stops(int donkey) {
        if (!isDonkey(donkey)) {
            return NONE;
        }
        look(future, donkey);
        int still = 0;
        for (int m = 0; m < FAR; m++) {
            if ((future.step() & STOOD) == 0) {
                still = m + 1;
            }
        }
        return still < FAR ? still : NOT_SO;
    }

    public int eats(int donkey, int n) {
        if (!isDonkey(donkey) || n < 0 || n > FAR) {
            return NONE;
        }
        look(future, donkey);
        Beast beast = scene.beasts[donkey];
        future.run(n, FAR);
        int most = 0;
        int where = NONE;
        for (int place = 0; place < beast.places; place++) {
            int eaten = beast.thistlesOn(place) - future.beast.thistlesOn(place);
            if (eaten > most) {
                most = eaten;
                where = place;
            }
        }
        newRow();
        tell(where);
        tell(most);
        return beast.allThistles() - future.beast.allThistles();
    }

    // ---- contracts

    public int owe(int from, int to, int frogs, int donkey, int hour) {
        boolean people = isPerson(from) && isPerson(to) && from != to;
        if (!people || frogs < 1 || frogs > 99 || !isDonkey(donkey) || hour < 0 || hour >= HOURS) {
            return NONE;
        }
        int number = contracts.size;
        return contracts.add(from, to, frogs, donkey, hour) ? number : NOT_SO;
    }

    public int tear() {
        int there = contracts.size;
        contracts.size = 0;
        return there;
    }

    public int due(int contract, int law, int n) {
        if (!contracts.has(contract) || !isLaw(law) || !isFar(n)) {
            return NONE;
        }
        look(future, contracts.clock[contract]);
        future.run(n, FAR);
        int hour = contracts.hour[contract];
        int times = timesDue(law, future.timesStruck(hour));
        if (times == 0) {
            return NOT_SO;
        }
        return law == 1 ? future.lastStruck(hour) : future.firstStruck(hour);
    }

    public int owes(int person, int law, int n) {
        if (!isPerson(person) || !isLaw(law) || !isFar(n)) {
            return NONE;
        }
        countDue(n);
        newRow();
        tell(contracts.owedTo(person, law));
        return contracts.owedBy(person, law);
    }

    public int reading(int person, int n) {
        if (!isPerson(person) || !isFar(n)) {
            return NONE;
        }
        countDue(n);
        newRow();
        int best = 0;
        int least = contracts.less(person, 0);
        for (int law = 0; law < LAWS; law++) {
            int owed = contracts.less(person, law);
            tell(owed);
            if (owed < least) {
                least = owed;
                best = law;
            }
        }
        return best;
    }

    public int mildest(int n) {
        if (!isFar(n)) {
            return NONE;
        }
        countDue(n);
        int best = 0;
        int least = contracts.most(0);
        for (int law = 1; law < LAWS; law++) {
            int most = contracts.most(law);
            if (most < least) {
                least = most;
                best = law;
            }
        }
        newRow();
        tell(least);
        return best;
    }

    // ---- ferries

    public int leave(int donkey, int ferry, int w) {
        if (!isDonkey(donkey) || !isFar(ferry) || !isRoad(w)) {
            return NONE;
        }
        if (w > ferry) {
            return NOT_SO;
        }
        look(future, donkey);
        int k = future.latestFor(ferry, w);
        newRow();
        tell(ferry - future.there(k, w));
        return k;
    }

    public int sure(int donkey, int ferry, int w, int t) {
        if (!isDonkey(donkey) || !isFar(ferry) || !isRoad(w) || t < 1 || t > 10) {
            return NONE;
        }
        if (w > ferry) {
            return NOT_SO;
        }
        for (int hunger = 0; hunger < 10; hunger++) {
            look(future, donkey);
            future.beast.hunger = hunger;
            tally[hunger] = future.latestFor(ferry, w);
        }
        int best = 0;
        for (int hunger = 0; hunger < 10; hunger++) {
            if (tally[hunger] > best && waysWithLatest(tally[hunger]) >= t) {
                best = tally[hunger];
            }
        }
        newRow();
        tell(waysWithLatest(best));
        return best;
    }

    public int missed(int donkey, int d, int k, int w) {
        boolean ferries = d >= 1 && d <= 120;
        if (!isDonkey(donkey) || !ferries || k < 1 || k > HOURS || !isRoad(w)) {
            return NONE;
        }
        look(future, donkey);
        future.run(FAR, FAR);
        int going = FAR / d;
        int taken = 0;
        int latest = 0;
        int left = 0;
        for (int j = k; j <= future.strokes; j += k) {
            // Who leaves later is there later: a FERRY taken before can only be the latest one.
            int ferry = (future.there(j, w) + d - 1) / d;
            if (ferry > going) {
                left++;
            } else if (ferry != latest) {
                taken++;
                latest = ferry;
            }
        }
        newRow();
        tell(left);
        return going - taken;
    }

    // ---- carrots

    public int bribe(int donkey, int n, int how) {
        if (!isDonkey(donkey) || n < 1 || n > 20 || !isWay(how)) {
            return NONE;
        }
        int asItIs = nextHour(donkey);
        int best = 0;
        int length = 0;
        for (int from = 0; from <= LAST_BRIBE_MINUTE; from++) {
            think(donkey, from, n, how);
            int hour = nextHour(donkey);
            future.thought.size = 0;
            if (from == 0 || isBetter(how, hour, length)) {
                best = from;
                length = hour;
            }
        }
        newRow();
        tell(length);
        tell(asItIs);
        return best;
    }

    public int rests(int donkey, int n, int m) {
        if (!isDonkey(donkey) || n < 1 || n > 10 || m < 0 || m > 20) {
            return NONE;
        }
        int hold = 0;
        int hurry = 0;
        int turns = 0;
        int unchanged = 0;
        while (turns < m && unchanged < 2) {
            int boy = turns % 2;
            int before = boy == 0 ? hold : hurry;
            int after = bestOfBoy(donkey, n, boy, hold, hurry);
            hold = boy == 0 ? after : hold;
            hurry = boy == 1 ? after : hurry;
            unchanged = after == before ? unchanged + 1 : 0;
            turns++;
        }
        newRow();
        tell(unchanged == 2 ? 1 : 0);
        tell(hold);
        tell(hurry);
        tell(hourOfBoys(donkey, n, hold, hurry));
        return turns;
    }

    public int bid(int donkey, int how, int v) {
        if (!isDonkey(donkey) || !isWay(how) || !isFar(v)) {
            return NONE;
        }
        for (int n = 0; n <= MOST_BID; n++) {
            if (n > 0) {
                think(donkey, 0, n, how);
            }
            look(future, donkey);
            int after = future.afterStroke(1);
            future.thought.size = 0;
            boolean late = after < 0 || after >= v;
            boolean early = after >= 0 && after <= v;
            if (how < 0 ? late : early) {
                return n;
            }
        }
        return NOT_SO;
    }

    // ---- what was heard

    public int heard(int donkey, int n, int w) {
        if (!isDonkey(donkey) || n < 0 || n > MOST_STROKES_ASKED || !isFar(w)) {
            return NONE;
        }
        return rumours.add(donkey, n, w) ? rumours.size : NONE;
    }

    public int forget() {
        int there = rumours.size;
        rumours.size = 0;
        return there;
    }

    public int hungers(int donkey) {
        if (!isDonkey(donkey)) {
            return NONE;
        }
        Beast beast = scene.beasts[donkey];
        int hungers = 0;
        for (int hunger = 0; hunger < 10; hunger++) {
            if (isWayHeard(donkey, hunger, beast.place)) {
                hungers |= 1 << hunger;
            }
        }
        int places = 0;
        for (int place = 0; place < beast.places; place++) {
            if (isWayHeard(donkey, beast.hunger, place)) {
                places |= 1 << place;
            }
        }
        newRow();
        tell(places);
        return hungers;
    }

    public int ways(int donkey) {
        if (!isDonkey(donkey)) {
            return NONE;
        }
        newRow();
        int ways = 0;
        for (int hunger = 0; hunger < 10; hunger++) {
            for (int place = 0; place < scene.beasts[donkey].places; place++) {
                if (isWayHeard(donkey, hunger, place)) {
                    if (ways == 0) {
                        tell(hunger);
                        tell(place);
                    }
                    ways++;
                }
            }
        }
        return ways;
    }

    public int swarms() {
        int swarms = 0;
        for (int swarm = 0; swarm < 10; swarm++) {
            future.swarm = swarm;
            boolean fits = true;
            for (int i = 0; i < scene.donkeys && fits; i++) {
                look(future, i);
                fits = rumours.fit(future);
            }
            future.swarm = NONE;
            if (fits) {
                swarms |= 1 << swarm;
            }
        }
        return swarms;
    }

    public int span(int donkey, int k) {
        if (!isDonkey(donkey) || !isAskedStroke(k)) {
            return NONE;
        }
        int earliest = NONE;
        int latest = NONE;
        int ways = 0;
        for (int hunger = 0; hunger < 10; hunger++) {
            for (int place = 0; place < scene.beasts[donkey].places; place++) {
                int after = isWayHeard(donkey, hunger, place) ? future.afterStroke(k) : NONE;
                if (after >= 0) {
                    earliest = ways == 0 ? after : Math.min(earliest, after);
                    latest = Math.max(latest, after);
                    ways++;
                }
            }
        }
        if (ways == 0) {
            return NOT_SO;
        }
        newRow();
        tell(latest);
        tell(ways);
        return earliest;
    }

    // ---- two clocks

    public int apart(int one, int other, int n) throws NoSuchElementException {
        if (!areTwo(one, other) || n < 0 || n > FAR) {
            throw new NoSuchElementException("no two such donkeys, or not so many minutes");
        }
        lookBoth(one, other);
        future.run(n, FAR);
        second.run(n, FAR);
        return future.beast.strokes - second.beast.strokes;
    }

    public int together(int one, int other) {
        if (!areTwo(one, other)) {
            return NONE;
        }
        lookBoth(one, other);
        for (int m = 0; m < FAR; m++) {
            int did = future.step();
            if ((did & second.step() & STRUCK) != 0) {
                return m + 1;
            }
        }
        return NOT_SO;
    }

    public int join(int one, int other, int n) {
        if (!areTwo(one, other) || !isFar(n)) {
            return NONE;
        }
        lookBoth(one, other);
        for (int shift = 0; shift < HOURS; shift++) {
            tally[shift] = 0;
        }
        for (int m = 0; m < n; m++) {
            future.step();
            second.step();
            tally[Math.floorMod(future.beast.strokes - second.beast.strokes, HOURS)]++;
        }
        int best = 0;
        for (int shift = 1; shift < HOURS; shift++) {
            if (tally[shift] > tally[best]) {
                best = shift;
            }
        }
        newRow();
        tell(best);
        tell(tally[best]);
        return tally[0];
    }

    public int shows(int one, int other, int k) {
        if (!areTwo(one, other) || !isAskedStroke(k)) {
            return NONE;
        }
        lookBoth(one, other);
        int after = second.afterStroke(k);
        if (after < 0) {
            return NOT_SO;
        }
        future.run(after, FAR);
        return future.beast.strokes % HOURS;
    }

    // ---- eggs, noon

    public int egg(int donkey, int k, int v) {
        if (!isDonkey(donkey) || k < 1 || k > HOURS || !isFar(v)) {
            return NONE;
        }
        look(future, donkey);
        future.run(FAR, HOURS + 1);
        if (future.strokes < k + 1) {
            return NOT_SO;
        }
        int best = 1;
        for (int j = 2; j < future.strokes && j <= HOURS; j++) {
            if (Math.abs(future.boiled(j) - v) < Math.abs(future.boiled(best) - v)) {
                best = j;
            }
        }
        newRow();
        tell(best);
        tell(future.boiled(best));
        return future.boiled(k);
    }

    public int plant(int donkey, int n, int k) {
        if (!isDonkey(donkey) || n < 1 || n > 9 || !isAskedStroke(k)) {
            return NONE;
        }
        int best = 0;
        int latest = NONE;
        for (int place = 0; place < scene.beasts[donkey].places; place++) {
            look(future, donkey);
            future.beast.put(place, Math.min(9, future.beast.thistlesOn(place) + n));
            int after = future.afterStroke(k);
            int late = after < 0 ? ENDLESS : after;
            if (late > latest) {
                latest = late;
                best = place;
            }
        }
        newRow();
        tell(latest == ENDLESS ? NONE : latest);
        return best;
    }

    // ---- kept

    public boolean keep(int i) {
        if (i < 0 || i >= kept.length) {
            return false;
        }
        kept[i].copyWalk(scene);
        kept[i].carrots.copy(scene.carrots);
        kept[i].filled = true;
        return true;
    }

    public boolean again(int i) {
        if (i < 0 || i >= kept.length || !kept[i].filled || kept[i].donkeys != scene.donkeys) {
            return false;
        }
        scene.copyWalk(kept[i]);
        scene.carrots.copy(kept[i].carrots);
        history.clear();
        return true;
    }

    public int count(int what) {
        switch (what) {
            case 0: return scene.donkeys;
            case 1: return scene.now;
            case 2: return scene.carrots.size;
            case 3: return contracts.size;
            case 4: return scene.allStrokes();
            case 5: return scene.allThistles();
            case 6: return history.size;
            case 7: return rumours.size;
            case 8: return numbersTold;
            case 9: return text.size;
            default: return NONE;
        }
    }

    public int row(int i) throws NoSuchElementException {
        if (i < 0 || i >= numbersTold || i >= numbers.length) {
            throw new NoSuchElementException("no such number in the row");
        }
        return numbers[i];
    }

    // ---- what the calls share

    private boolean isDonkey(int donkey) {
        return donkey >= 0 && donkey < scene.donkeys && donkey < MOST_DONKEYS;
    }

    private boolean areTwo(int one, int other) {
        return isDonkey(one) && isDonkey(other) && one != other;
    }

    private boolean isPlace(int donkey, int place) {
        return isDonkey(donkey) && place >= 0 && place < scene.beasts[donkey].places;
    }

    private static boolean isWay(int how) {
        return how == 1 || how == -1;
    }

    private static boolean isFar(int n) {
        return n >= 1 && n <= FAR;
    }

    private static boolean isRoad(int w) {
        return w >= 0 && w <= 99;
    }

    private static boolean isAskedStroke(int k) {
        return k >= 1 && k <= MOST_STROKES_ASKED;
    }

    private static boolean isPerson(int person) {
        return person >= 0 && person < PEOPLE;
    }

    private static boolean isLaw(int law) {
        return law >= 0 && law < LAWS;
    }

    private void newRow() {
        numbersTold = 0;
    }

    private void tell(int number) {
        if (numbersTold < numbers.length) {
            numbers[numbersTold] = number;
            numbersTold++;
        }
    }

    /** How many LINES there were, or where THE TEXT is wrong; the LINES stand behind the DONKEYS that are there. */
    private int readLines() {
        for (int i = scene.donkeys; i < MOST_DONKEYS; i++) {
            if (!readLine(scene.beasts[i])) {
                return text.wrong();
            }
            if (text.isOver()) {
                return i + 1 - scene.donkeys;
            }
            if (!text.takes(';')) {
                return text.wrong();
            }
        }
        return text.wrong();
    }

    private boolean readLine(Beast beast) {
        int hunger = text.digit();
        if (hunger < 0 || !text.takes(':')) {
            return false;
        }
        beast.stall(hunger);
        for (int place = 0; place < MOST_PLACES; place++) {
            int thistles = text.digit();
            if (thistles < 0) {
                return place >= LEAST_PLACES;
            }
            beast.addPlace(thistles);
        }
        return true;
    }

    private int setHunger(int donkey, int v) {
        if (!isDonkey(donkey) || v < 0 || v > 9) {
            return NONE;
        }
        Beast beast = scene.beasts[donkey];
        int was = beast.hunger;
        beast.hunger = v;
        return was;
    }

    private static int entryOf(int kind, int v) {
        int entry = kind == 0 ? (byte) v : kind == 1 ? (short) v : v;
        return Math.max(0, Math.min(9, entry));
    }

    private int paceNow(Beast beast, int number) {
        int now = scene.now;
        rule.give(beast, flies.in(now), scene.carrots.pull(number, now), now, number);
        return rule.pace();
    }

    /** A MINUTE for all DONKEYS; bits of those that ate, and above them of those that did not step. */
    private int pass() {
        int all = 0;
        for (int i = 0; i < scene.donkeys && i < MOST_DONKEYS; i++) {
            Beast beast = scene.beasts[i];
            int did = beast.walk(paceNow(beast, i));
            if ((did & STRUCK) != 0) {
                beast.enter(scene.now);
            }
            if ((did & ATE) != 0) {
                all |= 1 << i;
            }
            if ((did & STOOD) != 0) {
                all |= 1 << (i + MOST_DONKEYS);
            }
        }
        scene.now++;
        return all;
    }

    private void passMany(int n) {
        for (int i = 0; i < n; i++) {
            pass();
        }
    }

    private boolean doAct(int act) {
        if (act < 0 || act >= acts.kind.length) {
            return false;
        }
        int whose = acts.whose[act];
        int v = acts.value[act];
        switch (acts.kind[act]) {
            case 'm':
                if (v > FAR) {
                    return false;
                }
                passMany(v);
                return true;
            case 'c':
                return carrot(whose, scene.now, scene.now + v - 1, acts.where[act]) >= 0;
            case 's':
                return sow(whose, acts.where[act], v) >= 0;
            default:
                return setHunger(whose, v) >= 0;
        }
    }

    private void look(Future at, int donkey) {
        if (isDonkey(donkey)) {
            at.begin(scene.beasts[donkey], donkey, scene.now);
        }
    }

    private void lookBoth(int one, int other) {
        look(future, one);
        look(second, other);
    }

    private static int timesDue(int law, int struck) {
        if (law == 2) {
            return struck;
        }
        if (law == 3) {
            return struck == 1 ? 1 : 0;
        }
        return Math.min(1, struck);
    }

    private void countDue(int n) {
        for (int i = 0; contracts.has(i) && i < MOST_CONTRACTS; i++) {
            look(future, contracts.clock[i]);
            future.run(n, FAR);
            contracts.struck[i] = future.timesStruck(contracts.hour[i]);
        }
    }

    private int waysWithLatest(int k) {
        int ways = 0;
        for (int hunger = 0; hunger < 10; hunger++) {
            if (tally[hunger] >= k) {
                ways++;
            }
        }
        return ways;
    }

    private void think(int donkey, int from, int n, int how) {
        int begin = scene.now + from;
        future.thought.add(donkey, begin, begin + n - 1, how);
    }

    /** How long the HOUR behind the next STROKE is, with the CARROTS that are thought of. */
    private int nextHour(int donkey) {
        look(future, donkey);
        future.run(FAR, 2);
        return future.hour();
    }

    private static boolean isBetter(int how, int hour, int than) {
        return how < 0 ? hour > than : hour < than;
    }

    private int hourOfBoys(int donkey, int n, int hold, int hurry) {
        think(donkey, hold, n, -1);
        think(donkey, hurry, n, 1);
        look(future, donkey);
        future.run(FAR, 2);
        future.thought.size = 0;
        return future.hour();
    }

    private int bestOfBoy(int donkey, int n, int boy, int hold, int hurry) {
        int best = boy == 0 ? hold : hurry;
        int length = hourOfBoys(donkey, n, hold, hurry);
        for (int from = 0; from <= LAST_BOY_MINUTE; from++) {
            int hour = boy == 0 ? hourOfBoys(donkey, n, from, hurry) : hourOfBoys(donkey, n, hold, from);
            if (isBetter(boy == 0 ? -1 : 1, hour, length)) {
                best = from;
                length = hour;
            }
        }
        return best;
    }

    /** Leaves the future where what was heard ends, so that it can be gone on with. */
    private boolean isWayHeard(int donkey, int hunger, int place) {
        look(future, donkey);
        future.beast.hunger = hunger;
        future.beast.place = place;
        return rumours.fit(future);
    }

    /** THE TEXT, and how far it has been read. */
    private static final class Text {
        final int[] signs = new int[TEXT_SIGNS];
        int size;
        int at;
        int limit;

        boolean addFour(int v) {
            if (size < 0 || size + 4 > signs.length) {
                return false;
            }
            for (int shift = 24; shift >= 0; shift -= 8) {
                signs[size] = (v >>> shift) & 255;
                size++;
            }
            return true;
        }

        boolean cut(int n) {
            if (n < 0 || n > size) {
                return false;
            }
            size = n;
            return true;
        }

        void empty() {
            size = 0;
        }

        /** Signs from most on are there, but none of them can stand. */
        void begin(int most) {
            at = 0;
            limit = Math.min(size, most);
        }

        boolean isOver() {
            return at == size;
        }

        int wrong() {
            return -1 - at;
        }

        int next() {
            return at >= 0 && at < limit && at < signs.length ? signs[at] : NONE;
        }

        boolean takes(int sign) {
            if (next() != sign) {
                return false;
            }
            at++;
            return true;
        }

        int digit() {
            int sign = next();
            if (sign < '0' || sign > '9') {
                return NONE;
            }
            at++;
            return sign - '0';
        }

        /** A number of 1 to so many digits, or NONE. */
        int number(int most) {
            int v = digit();
            for (int i = 1; i < most && v >= 0; i++) {
                int more = digit();
                if (more < 0) {
                    return v;
                }
                v = v * 10 + more;
            }
            return v;
        }
    }

    /** A DONKEY: its ROUND, where it is on it, and its BOOK. */
    private static final class Beast {
        final int[] round = new int[MOST_PLACES];
        final int[] book = new int[BOOK_STROKES];
        int places;
        int place;
        int hunger;
        int strokes;

        void stall(int itsHunger) {
            hunger = itsHunger;
            places = 0;
            place = 0;
            strokes = 0;
        }

        void addPlace(int thistlesThere) {
            if (places < round.length) {
                round[places] = thistlesThere;
                places++;
            }
        }

        int thistlesOn(int where) {
            return where >= 0 && where < round.length ? round[where] : 0;
        }

        void put(int where, int v) {
            if (where >= 0 && where < round.length) {
                round[where] = v;
            }
        }

        int allThistles() {
            int sum = 0;
            for (int i = 0; i < places; i++) {
                sum += thistlesOn(i);
            }
            return sum;
        }

        /** A PACE of 4 on a ROUND of 4 comes onto PLACE 0 once: no MINUTE has two STROKES. */
        int walk(int pace) {
            int did = pace < 1 ? STOOD : 0;
            for (int i = 0; i < pace && (did & ATE) == 0; i++) {
                place = place + 1 < places ? place + 1 : 0;
                if (place == 0) {
                    strokes++;
                    hunger = Math.min(9, hunger + 1);
                    did |= STRUCK;
                }
                int there = thistlesOn(place);
                if (there > 0) {
                    put(place, there - 1);
                    hunger = Math.max(0, hunger - 2);
                    did |= ATE;
                }
            }
            return did;
        }

        /** Enters the latest STROKE into THE BOOK, where it drives out the one 40 STROKES before. */
        void enter(int minuteStruck) {
            book[Math.floorMod(strokes, BOOK_STROKES)] = minuteStruck;
        }

        int minuteOf(int stroke) {
            if (stroke > strokes) {
                return NOT_SO;
            }
            if (stroke < 1 || stroke <= strokes - BOOK_STROKES) {
                return LOST;
            }
            return book[Math.floorMod(stroke, BOOK_STROKES)];
        }

        void copyButBook(Beast from) {
            places = from.places;
            place = from.place;
            hunger = from.hunger;
            strokes = from.strokes;
            System.arraycopy(from.round, 0, round, 0, MOST_PLACES);
        }

        void copy(Beast from) {
            copyButBook(from);
            System.arraycopy(from.book, 0, book, 0, BOOK_STROKES);
        }
    }

    private static final class Carrots {
        final int[] whose = new int[MOST_CARROTS];
        final int[] from = new int[MOST_CARROTS];
        final int[] to = new int[MOST_CARROTS];
        final int[] how = new int[MOST_CARROTS];
        int size;

        boolean add(int itsDonkey, int first, int last, int itsHow) {
            if (size < 0 || size >= MOST_CARROTS) {
                return false;
            }
            whose[size] = itsDonkey;
            from[size] = first;
            to[size] = last;
            how[size] = itsHow;
            size++;
            return true;
        }

        boolean dropLatest() {
            if (size < 1) {
                return false;
            }
            size--;
            return true;
        }

        /** Those that hurry a DONKEY in a MINUTE, less those that hold it. */
        int pull(int itsDonkey, int m) {
            int sum = 0;
            for (int i = 0; i < size && i < MOST_CARROTS; i++) {
                if (whose[i] == itsDonkey && from[i] <= m && m <= to[i]) {
                    sum += how[i];
                }
            }
            return sum;
        }

        void copy(Carrots other) {
            size = other.size;
            System.arraycopy(other.whose, 0, whose, 0, MOST_CARROTS);
            System.arraycopy(other.from, 0, from, 0, MOST_CARROTS);
            System.arraycopy(other.to, 0, to, 0, MOST_CARROTS);
            System.arraycopy(other.how, 0, how, 0, MOST_CARROTS);
        }
    }

    private static final class Flies {
        final int[] digits = new int[FLIES_SIGNS];
        int size;

        /** How many digits, or where THE TEXT is wrong; then the FLIES stay as they are. */
        int read(Text told) {
            int i = 0;
            while (i < FLIES_SIGNS && told.digit() >= 0) {
                i++;
            }
            if (!told.isOver()) {
                return told.wrong();
            }
            told.begin(FLIES_SIGNS);
            size = told.size;
            for (i = 0; i < size && i < FLIES_SIGNS; i++) {
                digits[i] = told.digit();
            }
            return size;
        }

        int in(int m) {
            if (size < 1) {
                return 0;
            }
            int i = Math.floorMod(m, size);
            return i < FLIES_SIGNS ? digits[i] : 0;
        }
    }

    /** THE RULE, things ahead of what is done with them, so that a PACE is found in one go. */
    private static final class Rule {
        private static final String THINGS = "hptfcmki";
        /** Codes below THING are NUMBERS, those below OPERATOR are THINGS. */
        private static final int THING = 1000;
        private static final int OPERATOR = 2000;
        /** The - ahead of a thing, which is no sign of THE TEXT's. */
        private static final int MINUS = 256;

        final int[] code = new int[RULE_SIGNS];
        /** Signs that wait for what is behind them, while THE RULE is read; numbers, while a PACE is found. */
        final int[] stack = new int[RULE_SIGNS];
        final int[] given = new int[8];
        int size;
        int top;
        int brackets;

        /** No THE RULE at all stands, too. */
        boolean read(Text told) {
            size = 0;
            top = 0;
            brackets = 0;
            if (told.isOver()) {
                return true;
            }
            for (int i = 0; i < RULE_SIGNS; i++) {
                if (!readThing(told)) {
                    return false;
                }
                closeBrackets(told);
                if (told.isOver()) {
                    unwind(1);
                    return brackets == 0;
                }
                if (!readOperator(told)) {
                    return false;
                }
            }
            return false;
        }

        private void readAhead(Text told) {
            for (int i = 0; i < RULE_SIGNS; i++) {
                if (told.takes('-')) {
                    push(MINUS);
                } else if (brackets < MOST_BRACKETS && told.takes('(')) {
                    push('(');
                    brackets++;
                } else {
                    return;
                }
            }
        }

        private boolean readThing(Text told) {
            readAhead(told);
            int number = told.number(3);
            if (number >= 0) {
                emit(number);
                return true;
            }
            int sign = told.next();
            int thing = sign < 0 ? NONE : THINGS.indexOf((char) sign);
            if (thing < 0) {
                return false;
            }
            told.takes(sign);
            emit(THING + thing);
            return true;
        }

        private void closeBrackets(Text told) {
            while (brackets > 0 && told.takes(')')) {
                unwind(1);
                pop();
                brackets--;
            }
        }

        private boolean readOperator(Text told) {
            int sign = told.next();
            int binds = binding(sign);
            if (binds < 1) {
                return false;
            }
            unwind(Math.max(2, binds));
            if (binds == 1 && waiting() == 1) {
                return false;
            }
            push(sign);
            return told.takes(sign);
        }

        /** Emits what waits and binds as much as that or more, back to a bracket. */
        private void unwind(int least) {
            for (int left = top; left > 0 && waiting() >= least; left--) {
                emit(OPERATOR + pop());
            }
        }

        /** How much the latest sign that waits binds. */
        private int waiting() {
            return top > 0 && top <= stack.length ? binding(stack[top - 1]) : 0;
        }

        private static int binding(int sign) {
            switch (sign) {
                case '<': case '>': case '=': return 1;
                case '+': case '-': return 2;
                case '*': case '/': return 3;
                case MINUS: return 4;
                default: return 0;
            }
        }

        private void emit(int c) {
            if (size < code.length) {
                code[size] = c;
                size++;
            }
        }

        void copy(Rule from) {
            size = from.size;
            System.arraycopy(from.code, 0, code, 0, RULE_SIGNS);
        }

        void give(Beast beast, int fliesNow, int carrotsNow, int m, int number) {
            given[0] = beast.hunger;
            given[1] = beast.place;
            given[2] = beast.thistlesOn(beast.place);
            given[3] = fliesNow;
            given[4] = carrotsNow;
            given[5] = m;
            given[6] = beast.strokes % HOURS;
            given[7] = number;
        }

        /** The PACE by what was given last. */
        int pace() {
            if (size == 0) {
                return 1;
            }
            top = 0;
            for (int i = 0; i < size && i < code.length; i++) {
                int c = code[i];
                if (c < THING) {
                    push(c);
                } else if (c < THING + given.length) {
                    push(given[c - THING]);
                } else if (c == OPERATOR + MINUS) {
                    push(-pop());
                } else {
                    int right = pop();
                    push(combine(c - OPERATOR, pop(), right));
                }
            }
            return Math.max(0, Math.min(MOST_PACE, pop()));
        }

        private void push(int v) {
            if (top >= 0 && top < stack.length) {
                stack[top] = v;
                top++;
            }
        }

        private int pop() {
            if (top < 1 || top > stack.length) {
                return 0;
            }
            top--;
            return stack[top];
        }

        private static int combine(int sign, int left, int right) {
            switch (sign) {
                case '+': return left + right;
                case '-': return left - right;
                case '*': return left * right;
                case '/': return right == 0 ? 0 : left / right;
                case '<': return left < right ? 1 : 0;
                case '>': return left > right ? 1 : 0;
                default: return left == right ? 1 : 0;
            }
        }
    }

    /** What minutes change, and the CARROTS: as it is, or as it was. */
    private static final class Scene {
        final Beast[] beasts = new Beast[MOST_DONKEYS];
        final Carrots carrots = new Carrots();
        int donkeys;
        int now;
        boolean filled;
        boolean withCarrots;

        Scene() {
            for (int i = 0; i < beasts.length; i++) {
                beasts[i] = new Beast();
            }
        }

        int allStrokes() {
            int sum = 0;
            for (int i = 0; i < donkeys && i < beasts.length; i++) {
                sum += beasts[i].strokes;
            }
            return sum;
        }

        int allThistles() {
            int sum = 0;
            for (int i = 0; i < donkeys && i < beasts.length; i++) {
                sum += beasts[i].allThistles();
            }
            return sum;
        }

        void copyWalk(Scene from) {
            donkeys = from.donkeys;
            now = from.now;
            for (int i = 0; i < donkeys && i < beasts.length; i++) {
                beasts[i].copy(from.beasts[i]);
            }
        }
    }

    /** What can be undone; one place more than that, so that preparing drives out nothing. */
    private static final class History {
        final Scene[] scenes = new Scene[MOST_UNDONE + 1];
        int oldest;
        int size;

        History() {
            for (int i = 0; i < scenes.length; i++) {
                scenes[i] = new Scene();
            }
        }

        void prepare(Scene scene, boolean withCarrots) {
            Scene free = scenes[Math.floorMod(oldest + size, scenes.length)];
            free.copyWalk(scene);
            free.carrots.copy(scene.carrots);
            free.withCarrots = withCarrots;
        }

        void commit() {
            if (size < MOST_UNDONE) {
                size++;
            } else {
                oldest = Math.floorMod(oldest + 1, scenes.length);
            }
        }

        boolean takeBack(Scene scene) {
            if (size < 1) {
                return false;
            }
            size--;
            Scene was = scenes[Math.floorMod(oldest + size, scenes.length)];
            scene.copyWalk(was);
            if (was.withCarrots) {
                scene.carrots.copy(was.carrots);
            }
            return true;
        }

        void clear() {
            size = 0;
        }
    }

    /** ACTS of a DAY, as THE TEXT tells them. */
    private static final class Acts {
        /** No PLACE, and no how of a CARROT. */
        private static final int WRONG = -2;

        final int[] kind = new int[MOST_ACTS];
        final int[] whose = new int[MOST_ACTS];
        /** The PLACE of a sow(), the how of a CARROT. */
        final int[] where = new int[MOST_ACTS];
        final int[] value = new int[MOST_ACTS];
        int size;

        boolean read(Text told) {
            size = 0;
            if (told.isOver()) {
                return true;
            }
            while (size < MOST_ACTS) {
                if (!readAct(told, size)) {
                    return false;
                }
                size++;
                if (told.isOver()) {
                    return true;
                }
                if (!told.takes(';')) {
                    return false;
                }
            }
            return false;
        }

        private boolean readAct(Text told, int i) {
            if (i < 0 || i >= MOST_ACTS) {
                return false;
            }
            int sign = told.next();
            if (sign != 'm' && sign != 'c' && sign != 's' && sign != 'h') {
                return false;
            }
            told.takes(sign);
            kind[i] = sign;
            whose[i] = sign == 'm' ? 0 : told.digit();
            where[i] = whose[i] < 0 ? WRONG : readBetween(told, sign);
            if (where[i] == WRONG) {
                return false;
            }
            value[i] = sign == 'm' ? told.number(3) : sign == 'c' ? told.number(2) : told.digit();
            return value[i] >= 0;
        }

        /** What stands between the DONKEY and the last number: a PLACE, a how, or nothing that says more. */
        private static int readBetween(Text told, int sign) {
            switch (sign) {
                case 'c':
                    return told.takes('+') ? 1 : told.takes('-') ? -1 : WRONG;
                case 's':
                    int place = told.number(2);
                    return place >= 0 && told.takes('=') ? place : WRONG;
                case 'h':
                    return told.takes('=') ? 0 : WRONG;
                default:
                    return 0;
            }
        }
    }

    private static final class Contracts {
        final int[] debtor = new int[MOST_CONTRACTS];
        final int[] creditor = new int[MOST_CONTRACTS];
        final int[] frogs = new int[MOST_CONTRACTS];
        final int[] clock = new int[MOST_CONTRACTS];
        final int[] hour = new int[MOST_CONTRACTS];
        /** How often each one's HOUR is struck in the DAY that is asked about. */
        final int[] struck = new int[MOST_CONTRACTS];
        int size;

        boolean add(int from, int to, int many, int itsClock, int itsHour) {
            if (size < 0 || size >= MOST_CONTRACTS) {
                return false;
            }
            debtor[size] = from;
            creditor[size] = to;
            frogs[size] = many;
            clock[size] = itsClock;
            hour[size] = itsHour;
            size++;
            return true;
        }

        boolean has(int contract) {
            return contract >= 0 && contract < size && contract < MOST_CONTRACTS;
        }

        int owedBy(int person, int law) {
            return sumOf(debtor, person, law);
        }

        int owedTo(int person, int law) {
            return sumOf(creditor, person, law);
        }

        private int sumOf(int[] side, int person, int law) {
            int sum = 0;
            for (int i = 0; i < size && i < side.length && i < MOST_CONTRACTS; i++) {
                if (side[i] == person) {
                    sum += frogs[i] * timesDue(law, struck[i]);
                }
            }
            return sum;
        }

        int less(int person, int law) {
            return owedBy(person, law) - owedTo(person, law);
        }

        int most(int law) {
            int most = less(0, law);
            for (int person = 1; person < PEOPLE; person++) {
                most = Math.max(most, less(person, law));
            }
            return most;
        }
    }

    /** What was heard. */
    private static final class Rumours {
        final int[] whose = new int[MOST_HEARD];
        final int[] strokes = new int[MOST_HEARD];
        final int[] within = new int[MOST_HEARD];
        int size;

        boolean add(int itsDonkey, int n, int w) {
            if (size < 0 || size >= MOST_HEARD) {
                return false;
            }
            whose[size] = itsDonkey;
            strokes[size] = n;
            within[size] = w;
            size++;
            return true;
        }

        /** Whether all that was heard of a DONKEY is so in a future of it that has just begun. */
        boolean fit(Future of) {
            for (int i = 0; i < size && i < MOST_HEARD; i++) {
                if (whose[i] == of.number) {
                    of.run(within[i], FAR);
                    if (of.strokesWithin(within[i]) != strokes[i]) {
                        return false;
                    }
                }
            }
            return true;
        }
    }

    /** A DONKEY in MINUTES to come, walked in a copy of it. */
    private static final class Future {
        final Rule rule;
        final Flies flies;
        final Carrots carrots;
        final Carrots thought = new Carrots();
        final Beast beast = new Beast();
        final int[] strokeIn = new int[FAR];
        /** FLIES in each MINUTE; NONE: as they are told. */
        int swarm = NONE;
        int number;
        int now;
        int gone;
        int strokes;

        Future(Rule itsRule, Flies itsFlies, Carrots itsCarrots) {
            rule = itsRule;
            flies = itsFlies;
            carrots = itsCarrots;
        }

        void begin(Beast as, int itsNumber, int itsNow) {
            beast.copyButBook(as);
            number = itsNumber;
            now = itsNow;
            gone = 0;
            strokes = 0;
        }

        int step() {
            int m = now + gone;
            int fliesNow = swarm < 0 ? flies.in(m) : swarm;
            int carrotsNow = carrots.pull(number, m) + thought.pull(number, m);
            rule.give(beast, fliesNow, carrotsNow, m, number);
            int did = beast.walk(rule.pace());
            if ((did & STRUCK) != 0 && strokes >= 0 && strokes < strokeIn.length) {
                strokeIn[strokes] = gone;
                strokes++;
            }
            gone++;
            return did;
        }

        /** Goes on until so many MINUTES are gone, or so many STROKES struck. */
        void run(int till, int most) {
            for (int m = gone; m < till && strokes < most; m++) {
                step();
            }
        }

        private int strokeMinute(int k) {
            return k >= 1 && k <= strokes && k <= strokeIn.length ? strokeIn[k - 1] : NONE;
        }

        int afterStroke(int k) {
            run(FAR, k);
            return k <= strokes ? strokeMinute(k) + 1 : NONE;
        }

        int strokesWithin(int w) {
            int k = 0;
            while (k < strokes && strokeMinute(k + 1) < w) {
                k++;
            }
            return k;
        }

        /** The HOUR behind the next STROKE, if it has been run to its end. */
        int hour() {
            return strokes < 2 ? ENDLESS : boiled(1);
        }

        int boiled(int k) {
            return strokeMinute(k + 1) - strokeMinute(1);
        }

        private boolean isHour(int k, int hour) {
            return Math.floorMod(beast.strokes - strokes + k, HOURS) == hour;
        }

        int timesStruck(int hour) {
            int times = 0;
            for (int k = 1; k <= strokes; k++) {
                if (isHour(k, hour)) {
                    times++;
                }
            }
            return times;
        }

        int firstStruck(int hour) {
            for (int k = 1; k <= strokes; k++) {
                if (isHour(k, hour)) {
                    return strokeMinute(k);
                }
            }
            return NONE;
        }

        int lastStruck(int hour) {
            for (int k = strokes; k >= 1; k--) {
                if (isHour(k, hour)) {
                    return strokeMinute(k);
                }
            }
            return NONE;
        }

        /** From which MINUTE on one is there who leaves on STROKE k to come (0: now). */
        int there(int k, int w) {
            return strokeMinute(k) + w + 1;
        }

        /** The latest STROKE from which one is there for a FERRY: those behind it are not run to. */
        int latestFor(int ferry, int w) {
            run(ferry - w, FAR);
            return strokes;
        }
    }
}
