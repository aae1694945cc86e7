/** Terms 3, runs: one test for each sentence that names an edge; the sentence stands above it. */
public final class EdgeRunTest {
    private static final String HEAD = "class A { int f; A n; static A l = new A(); static A k = new A(); static int g; static text t; static row w; ";

    public static void main(String[] args) {
        eightThreads();
        thirtyFrames();
        textSizes();
        rowSizes();
        roots();
        twoHundred();
        sizesAheadOfRoom();
        firstValues();
        mainIsNotWanted();
        wakesByNumber();
        wakesAtOrAhead();
        quantumIsDone();
        itselfLast();
        clockJumps();
        clockJumpsAgain();
        noStep();
        looks();
        numbersThatWrap();
        thrownThroughFrames();
        releasedByThrows();
        wanted();
        wantedAheadOfAllElse();
        initialiserFails();
        initialiserWaits();
        callOrder();
        spawnOrder();
        deadThreads();
        enterAndLeave();
        waitOrder();
        waitReleasesWholly();
        waitTimes();
        notifyOrder();
        interruptOfEach();
        sleepEdges();
        joinEdges();
        whatStaysBelow();
        nothingStays();
        slotsAgain();
        othersStillWait();
        Kit.done();
    }

    private static void prints(String text, int quantum, String want) {
        Kit.due(text, Kit.printed(HEAD + text + " }", quantum), want);
    }

    private static void inMain(String body, String want) {
        prints("static void h(int x) { if (x > 1) { h(x - 1); return; } print(x); } A me() { return this; } static void main() { " + body + " }", 9, want);
    }

    private static void thrown(String body, int want) {
        inMain("try { " + body + " print(77); } catch (e) { print(e); }", want + "|");
    }

    private static FrostHouse house(String text, int quantum) {
        return Kit.house(HEAD + text + " }", quantum);
    }

    // "THREADS 0 .. 7 are numbered as they are made"; "-11 a ninth thread".
    private static void eightThreads() {
        prints("static void f() { } static void main() { int i = 0; while (i < 7) { print(spawn f()); i = i + 1; } try { spawn f(); } catch (e) { print(e); } print(9); }", 50, "1|2|3|4|5|6|7|-11|9|");
        // Those that are DEAD keep their numbers.
        prints("static void f() { } static void main() { int i = 0; while (i < 7) { join(spawn f()); i = i + 1; } try { spawn f(); } catch (e) { print(e); } }", 50, "-11|");
    }

    // "each has FRAMES (at most 30)"; "-8 a 31st FRAME".
    private static void thirtyFrames() {
        inMain("h(29); try { h(30); } catch (e) { print(e); }", "1|-8|");
        FrostHouse x = Kit.house("class A { static void h(int x) { h(x + 1); } static void main() { h(1); } }", 50);
        int most = 0;
        while (x.about(0) == 1) {
            x.run(1);
            most = Math.max(most, x.thread(0, 1));
        }
        Kit.due("frames", most, 30);
        Kit.due("dead by", x.thread(0, 8), -8);
        // Each thread has its own.
        prints("static void h(int x) { if (x > 1) { h(x - 1); return; } print(1); sleep(50); } static void r() { h(29); } static void main() { spawn r(); spawn r(); h(29); }", 3, "1|1|1|");
    }

    // "texts (0 to 40 bytes)"; "-14 a text above 40 bytes".
    private static void textSizes() {
        String twenty = "\"12345678901234567890\"";
        inMain("t = " + twenty + " + " + twenty + "; print(len(t)); print(t);", "40|1234567890123456789012345678901234567890|");
        thrown("t = " + twenty + " + " + twenty + " + \"1\";", -14);
        thrown("t = " + twenty + " + " + twenty + " + 1;", -14);
        thrown("t = 1 + (" + twenty + " + " + twenty + ");", -14);
        inMain("t = " + twenty + " + " + twenty + " + \"\"; print(len(t)); t = \"\" + \"\"; print(len(t));", "40|0|");
        inMain("t = " + twenty + " + \"123456789\" + (-2147483647 - 1); print(len(t)); t = (-2147483647 - 1) + " + twenty + "; print(t);", "40|-214748364812345678901234567890|");
        thrown("t = " + twenty + " + \"1234567890\" + (-2147483647 - 1);", -14);
        inMain("t = " + twenty + " + \"1234567890\" + 2147483647; print(len(t)); print(0 + \"\" + -1);", "40|0-1|");
        thrown("t = " + twenty + " + " + twenty + " + (A.t + 1);", -1);
    }

    // "rows (0 to 30 ints)"; "-12 a size not 0 .. 30"; "-3 an index .. that is none".
    private static void rowSizes() {
        inMain("w = new row[0]; print(len(w)); w = new row[30]; print(len(w)); w[29] = 5; print(w[29]); print(w[0]);", "0|30|5|0|");
        thrown("w = new row[31];", -12);
        thrown("w = new row[-1];", -12);
        thrown("w = new row[2147483647];", -12);
        thrown("w = new row[-2147483647 - 1];", -12);
        thrown("w = new row[30]; w[30] = 1;", -3);
        thrown("w = new row[30]; print(w[30]);", -3);
        thrown("w = new row[30]; print(w[-1]);", -3);
        thrown("w = new row[30]; w[2147483647] = 1;", -3);
        thrown("w = new row[0]; w[0] = 1;", -3);
        // The row is asked ahead of its index.
        thrown("w = null; w[-1] = 1;", -1);
        thrown("w = null; print(w[99]);", -1);
    }

    /** How many can be reached when the thread sleeps for the first time, its class begun and done. */
    private static int reached(String main) {
        FrostHouse x = Kit.house("class A { A n; static A s; static text u; static void f(A a, int b) { } static A sl(A a) { sleep(1000); return a; } static void main() { A.s = null; " + main + " } }", 50);
        for (int i = 0; i < 200 && x.thread(0, 0) != 4; i++) {
            x.run(1);
        }
        return x.about(6);
    }

    // "what can't be reached any more (from STATICS, FRAMES (variables in sight), what threads wait on, a checkpoint's list, interned texts) does not count".
    private static void roots() {
        Kit.due("nothing", reached("sleep(1000);"), 0);
        Kit.due("a static", reached("s = new A(); sleep(1000);"), 1);
        Kit.due("a static no more", reached("s = new A(); s = null; sleep(1000);"), 0);
        Kit.due("a variable", reached("A a = new A(); sleep(1000);"), 1);
        Kit.due("a variable not in sight", reached("{ A a = new A(); } sleep(1000);"), 0);
        Kit.due("a variable with a new value", reached("A a = new A(); a = new A(); sleep(1000);"), 1);
        Kit.due("the place of one that is not in sight any more", reached("{ A a = new A(); } int b = 5; sleep(1000);"), 0);
        Kit.due("on the stack", reached("f(new A(), sleep(1000));"), 1);
        Kit.due("of a frame below", reached("A a = new A(); sl(null);"), 1);
        Kit.due("an arg", reached("sl(new A());"), 1);
        Kit.due("on the stack of a frame below", reached("f(new A(), sl(null) == null);"), 1);
        Kit.due("held", reached("sync (new A()) { sleep(1000); }"), 1);
        Kit.due("held no more", reached("sync (new A()) { } sleep(1000);"), 0);
        Kit.due("a field", reached("s = new A(); s.n = new A(); s.n.n = new A(); sleep(1000);"), 3);
        Kit.due("a ring", reached("s = new A(); s.n = new A(); s.n.n = s; sleep(1000);"), 2);
        Kit.due("a ring that is lost", reached("s = new A(); s.n = new A(); s.n.n = s; s = null; sleep(1000);"), 0);
        Kit.due("an interned text", reached("print(\"a\"); sleep(1000);"), 1);
        Kit.due("a text that is not interned", reached("print(\"a\" + 1); sleep(1000);"), 1);
        Kit.due("it is now", reached("intern(\"a\" + 1); sleep(1000);"), 2);
        Kit.due("a row", reached("row r = new row[3]; sleep(1000);"), 1);
        FrostHouse x = Kit.house("res class R { void freeze() { A.a = null; sleep(9); } void thaw() { } } class A { static R a = new R(); static void main() { register(a); checkpoint(); print(1); sleep(9); } }", 50);
        while (x.thread(0, 0) != 4) {
            x.run(1);
        }
        Kit.due("of a checkpoint's list (and a frame's this)", x.about(6), 1);
        while (x.thread(0, 1) != 1) {
            x.run(1);
        }
        Kit.due("of a checkpoint's list alone", x.about(6), 1);
        Kit.due("it is still registered", x.about(7), 1);
        x.run(9);
        x.thaw();
        while (x.about(3) == 0) {
            x.run(1);
        }
        Kit.due("it is over", x.about(6), 0);
        Kit.due("it can't be reached", x.about(7), 0);
        FrostHouse y = house("static void b() { sync (l) { } } static void main() { sync (l) { spawn b(); sleep(20); l = null; k = null; sleep(50); } }", 50);
        while (y.klass(0, 10) != 0 || y.thread(0, 0) != 4) {
            y.run(1);
        }
        Kit.due("what one holds and one waits for", y.about(6), 1);
    }

    // "OBJECTS, texts .. and rows .. are 200 at most"; "what stands on the stack ahead of an instruction counts while it makes its object".
    private static void twoHundred() {
        String fill = "static void fill(int x) { while (x > 0) { A a = new A(); a.n = l; l = a; x = x - 1; } } static int two(A a, A b) { return 1; } ";
        // l and k are two of them at first.
        prints(fill + "static void main() { fill(198); print(1); try { fill(1); } catch (e) { print(e); } l = l.n; fill(1); print(2); try { w = new row[0]; } catch (e) { print(e); } }", 9, "1|-7|2|-7|");
        prints(fill + "static void main() { fill(197); w = new row[1]; try { w = new row[2]; } catch (e) { print(e); } print(len(w)); w = null; w = new row[2]; print(len(w)); }", 9, "-7|1|2|");
        prints(fill + "static void main() { fill(197); two(new A(), null); two(new A(), null); print(1); try { two(new A(), new A()); } catch (e) { print(e); } }", 9, "1|-7|");
        // The new text counts beside the two that it is made of.
        prints(fill + "static void main() { t = \"a\" + 1; fill(195); t = t + 1; print(t); fill(1); try { t = t + 1; } catch (e) { print(e); } print(t); }", 9, "a11|-7|a11|");
        // The first one that there was makes room, too.
        prints(fill + "static void main() { l = null; k = null; fill(200); print(1); try { fill(1); } catch (e) { print(e); } }", 9, "1|-7|");
        // What is interned needs no room; what is not does.
        prints(fill + "static void main() { print(\"a\"); fill(197); print(\"a\"); try { print(\"b\"); } catch (e) { print(e); } print(intern(\"a\")); }", 9, "a|a|-7|a|");
    }

    // "(-12, -14 ahead of -7)".
    private static void sizesAheadOfRoom() {
        String fill = "static void main() { t = \"1234567890\"; t = t + t; t = t + t; try { while (1) { A a = new A(); a.n = l; l = a; } } catch (e) { print(e); } ";
        prints(fill + "try { w = new row[31]; } catch (e) { print(e); } try { w = new row[30]; } catch (e) { print(e); } "
            + "try { print(t + 1); } catch (e) { print(e); } try { print(\"1234567890\" + 1); } catch (e) { print(e); } }", 9, "-7|-12|-7|-14|-7|");
        // Null is ahead of both.
        prints(fill + "try { print(t + w[0]); } catch (e) { print(e); } }", 9, "-7|-1|");
    }

    // "FIELDS, STATICS, elements are 0, null at first."
    private static void firstValues() {
        inMain("A a = new A(); print(a.f); print(a.n == null); print(g); print(t); print(w == null); print((new row[2])[1]);", "0|1|0|null|1|0|");
        // Also where something else had been.
        prints("static void main() { int i = 0; while (i < 300) { A a = new A(); row r = new row[3]; if (a.f != 0 || a.n != null || r[2] != 0) { print(i); } a.f = 7; a.n = a; r[2] = 9; i = i + 1; } print(i); }", 9, "300|");
    }

    // "(0 begins main of the first class that has one; that class is not WANTED by this)".
    private static void mainIsNotWanted() {
        FrostHouse x = Kit.house("class Z { void main() { } } class A { static int s = print(1); static void main() { print(2); } } class B { static void main() { print(3); } }", 1);
        Kit.due("its class is new", x.klass(1, 0), 0);
        x.run(100);
        Kit.due("and stays so", x.klass(1, 0), 0);
        Kit.due("main of the first that has one", Kit.out(x), "2|");
    }

    // "all whose time is at or ahead of the CLOCK wake, by number".
    private static void wakesByNumber() {
        // Whenever it is done, wait(l, 400 - time()) is till 402; 2 waits ahead of 1, but 1 comes to the queue first.
        String both = "static void f(int n) { sleep(90 - 30 * n); sync (l) { wait(l, 400 - time()); print(n); } } ";
        prints(both + "static void main() { spawn f(1); spawn f(2); sleep(500); }", 5, "1|2|");
        prints(both + "static void main() { spawn f(1); spawn f(2); sleep(200); sync (l) { all(l); } }", 5, "2|1|");
        prints(both + "static void main() { spawn f(1); spawn f(2); sleep(500 - time()); print(time()); }", 50, "1|2|503|");
    }

    private static void wakesAtOrAhead() {
        FrostHouse x = Kit.house("class A { static void f() { while (1) { } } static void main() { spawn f(); sleep(10); print(1); while (1) { } } }", 1);
        while (x.thread(0, 0) != 4) {
            x.run(1);
        }
        long since = x.clock() - 1;
        while (x.clock() < since + 10) {
            x.run(1);
            Kit.due("it sleeps", x.thread(0, 0), 4);
        }
        x.run(1);
        Kit.due("its time was there ahead of this step", x.thread(0, 0), 0);
        FrostHouse y = Kit.house("class A { static void main() { sleep(1); print(1); } }", 1);
        y.run(2);
        Kit.due("a sleep of 1", y.thread(0, 0), 4);
        Kit.due("no jump", y.run(1) == 1 && y.clock() == 3, true);
    }

    private static String hands(FrostHouse x, int steps) {
        StringBuilder all = new StringBuilder();
        for (int i = 0; i < steps; i++) {
            x.run(1);
            all.append(x.about(12));
        }
        return all.toString();
    }

    // "or has done QUANTUM STEPS since it came to hand, the next READY one behind it (round, itself last) comes to hand".
    private static void quantumIsDone() {
        String text = "class A { static void f() { while (1) { } } static void main() { spawn f(); spawn f(); spawn f(); while (1) { } } }";
        FrostHouse x = Kit.house(text, 20);
        Kit.due("each twenty", hands(x, 100), "0".repeat(20) + "1".repeat(20) + "2".repeat(20) + "3".repeat(20) + "0".repeat(20));
        FrostHouse y = Kit.house(text, 1);
        y.run(20);
        Kit.due("each one", hands(y, 8).matches("(0123){2}|(1230){2}|(2301){2}|(3012){2}"), true);
        // One that sleeps within its turn gives it up, and begins anew.
        FrostHouse z = Kit.house("class A { static void f() { while (1) { } } static void main() { spawn f(); sleep(2); while (1) { } } }", 8);
        Kit.due("a turn that is given up", hands(z, 30), "000000" + "11111111" + "00000000" + "11111111");
    }

    private static void itselfLast() {
        FrostHouse x = Kit.house("class A { static void main() { while (1) { } } }", 3);
        Kit.due("it alone", hands(x, 7), "0000000");
        FrostHouse y = Kit.house("class A { static void f() { sleep(3); } static void main() { spawn f(); while (1) { } } }", 2);
        Kit.due("another one that sleeps is passed by", hands(y, 20).endsWith("0000"), true);
        // STEPS begin anew when it comes to hand again.
        Image image = Image.of(x);
        Kit.due("steps of the third turn", image.sections[2][6], 1);
    }

    // "if none is READY the CLOCK becomes the least time of those that sleep or wait with a time, and these wake ahead of that".
    private static void clockJumps() {
        FrostHouse x = Kit.house("class A { static void f(int n) { sleep(300 - time()); print(n); } static void main() { spawn f(1); spawn f(2); sleep(500 - time()); print(0); } }", 5);
        while (x.clock() < 302) {
            x.run(1);
        }
        Kit.due("it jumped to 302, and a step is done", x.clock(), 303);
        Kit.due("one is at hand", x.about(12), 1);
        Kit.due("both woke", x.thread(1, 0) == 0 && x.thread(2, 0) == 0, true);
        Kit.due("the third did not", x.thread(0, 0), 4);
        x.run(100);
        Kit.due("in order", Kit.out(x), "1|2|0|");
        // Of two that wake the one behind that at hand is next, that at hand last.
        FrostHouse y = Kit.house("class A { static void f() { sleep(300 - time()); print(1); } static void main() { int t = spawn f(); sleep(40); sleep(300 - time()); print(0); } }", 5);
        while (y.clock() < 300) {
            y.run(1);
        }
        Kit.due("0 slept last", Kit.out(y), "");
        y.run(100);
        Kit.due("but 1 is next", Kit.out(y), "1|0|");
        FrostHouse z = house("static void main() { sync (l) { wait(l, 1000); } print(time()); }", 5);
        z.run(100);
        // INT and wait stand at 7 and 8 behind the class's own steps; LEAVE and time behind 1,008.
        Kit.due("of one that waits with a time", z.clock() > 1000 && Kit.out(z).startsWith("10"), true);
    }

    // "as long as still none is (they may be BLOCKED then), so again".
    private static void clockJumpsAgain() {
        FrostHouse x = house("static void f() { sync (l) { wait(l, 300 - time()); print(time() > 500); } } static void main() { spawn f(); sleep(50); sync (l) { sleep(500 - time()); print(0); } }", 5);
        while (x.clock() < 300) {
            x.run(1);
        }
        Kit.due("past both times in one step", x.clock(), 503);
        Kit.due("the first is blocked", x.thread(1, 0), 1);
        x.run(100);
        Kit.due("it goes on behind", Kit.out(x), "0|1|");
    }

    // "if none has a time any more there is no STEP".
    private static void noStep() {
        FrostHouse y = house("static void f() { sync (l) { wait(l, 300 - time()); } } static void main() { int t = spawn f(); sleep(50); sync (l) { join(t); } }", 50);
        while (y.thread(0, 0) != 5) {
            y.run(1);
        }
        Kit.due("one waits with a time", y.thread(1, 0), 3);
        Kit.due("it goes on", y.about(0), 1);
        Kit.due("no step is done", y.run(1), 0);
        Kit.due("but its time is there", y.clock(), 302);
        Kit.due("stuck", y.about(0), 4);
        FrostHouse x = house("static void f() { sync (l) { wait(l, 300 - time()); } } static void main() { int t = spawn f(); sleep(50); sync (l) { join(t); } }", 5);
        int steps = 0;
        while (x.run(1) == 1) {
            steps++;
        }
        Kit.due("no step more", x.run(20000), 0);
        Kit.due("its time has come", x.thread(1, 0), 1);
        Kit.due("stuck", x.about(0), 4);
        Kit.due("steps", steps > 0 && steps < 100, true);
        x.freeze();
        x.take();
        Kit.due("restore", x.restore(9, 9), 0);
        Kit.due("stuck behind it", x.about(0), 4);
    }

    // "The machine has ENDED when all threads are DEAD, is STUCK when of others none is READY and none has a time (both looked at behind each STEP)."
    private static void looks() {
        FrostHouse x = Kit.house("class A { static void f() { join(0); } static void main() { spawn f(); sleep(40); } }", 5);
        int steps = x.run(20000);
        Kit.due("ended", x.about(0), 3);
        Kit.due("all are dead", x.about(5), 2);
        Kit.due("not a step more", x.run(20000), 0);
        FrostHouse y = Kit.house("class A { static void f() { join(0); } static void main() { int t = spawn f(); join(t); } }", 5);
        y.run(20000);
        Kit.due("stuck", y.about(0), 4);
        FrostHouse z = Kit.house("class A { static void f() { join(0); } static void main() { int t = spawn f(); sleep(1000); } }", 5);
        z.run(10);
        Kit.due("one has a time", z.about(0), 1);
        FrostHouse u = Kit.house("class A { static void f() { } static void main() { spawn f(); join(0); } }", 1);
        u.run(20000);
        Kit.due("a dead one beside it", u.about(0), 4);
        Kit.due("one is dead", u.about(5), 1);
        Kit.due("steps", steps > 0, true);
    }

    // "Ints wrap; / and % towards 0. NOT: 1 of 0, else 0."
    private static void numbersThatWrap() {
        inMain("int m = -2147483647 - 1; print(m); print(m - 1); print(2147483647 + 1); print(m * -1); print(-m); print(m * m); print(65536 * 65536); print(46341 * 46341);",
            "-2147483648|2147483647|-2147483648|-2147483648|-2147483648|0|0|-2147479015|");
        inMain("int m = -2147483647 - 1; print(m / -1); print(m % -1); print(m / 1); print(m / m); print(7 / 2); print(-7 / 2); print(7 / -2); print(-7 / -2); print(7 % -2); print(-7 % 2); print(0 / 5); print(1 / m);",
            "-2147483648|0|-2147483648|1|3|-3|-3|3|1|-1|0|0|");
        inMain("print(!0); print(!1); print(!-1); print(!!7); print(1 && 7); print(7 || 0); print(0 || 7); print(-1 && 0);", "1|0|0|1|1|1|1|0|");
        inMain("int m = -2147483647 - 1; print(m < 2147483647); print(m > 2147483647); print(m <= m); print(m >= m); print(m < m); print(m > m); print(m == m); print(m != m);", "1|0|1|1|0|0|1|0|");
        thrown("g = 5 / 0;", -2);
        thrown("g = 5 % 0;", -2);
        thrown("g = 0 / 0;", -2);
    }

    // "without one its FRAME ends .., and it is thrown at the instruction below; without one the thread is DEAD, by that".
    private static void thrownThroughFrames() {
        prints("static void a() { try { b(); } catch (e) { print(e); throw e + 1; } } static void b() { c(); print(1); } static void c() { throw 5; } static void main() { try { a(); } catch (e) { print(e); } }", 9, "5|6|");
        // A try around a call has it, a try behind it or in the other BLOCK has not.
        prints("static void c() { throw 5; } static void main() { try { print(0); } catch (e) { print(1); } try { c(); } catch (e) { try { c(); } catch (e2) { print(e2 + e); } } c(); }", 9, "0|10|");
        FrostHouse x = Kit.house("class A { static void c() { throw -2147483647 - 1; } static void main() { c(); } }", 9);
        int steps = x.run(100);
        // The class is wanted, its initialiser returns, the call; INT, NEGATE, INT, SUBTRACT, THROW.
        Kit.due("all frames end in a step", steps, 8);
        Kit.due("dead by that", x.thread(0, 8), -2147483648);
        Kit.due("no frames", x.thread(0, 1), 0);
        FrostHouse y = Kit.house("class A { static void main() { throw 0; } }", 9);
        y.run(9);
        Kit.due("dead by 0", y.thread(0, 8), 0);
        Kit.due("its state", y.thread(0, 0), 7);
    }

    // "monitors HELD since that try began are released"; "its FRAME ends (all HELD are released so)".
    private static void releasedByThrows() {
        prints("static void o() { sync (k) { print(1); sync (l) { print(2); } } } static void main() { sync (l) { try { sync (k) { spawn o(); sleep(20); throw 5; } } catch (e) { sleep(20); print(e); } print(3); } }", 50, "1|5|3|2|");
        prints("static void f() { sync (k) { sync (k) { throw 4; } } } static void o() { sync (k) { print(1); } } static void main() { try { spawn o(); f(); } catch (e) { sleep(20); print(e); } }", 50, "1|4|");
        // One that is HELD twice, once since the try began, is still its own.
        prints("static void o() { sync (k) { print(1); } } static void main() { sync (k) { try { sync (k) { throw 4; } } catch (e) { spawn o(); sleep(20); print(e); } } }", 50, "4|1|");
        // A thread that dies releases all.
        prints("static void f() { sync (k) { sync (l) { throw 4; } } } static void main() { spawn f(); sleep(20); sync (l) { sync (k) { print(1); } } }", 50, "1|");
        prints("static int f() { sync (k) { sync (k) { return 4; } } } static void o() { sync (k) { print(1); } } static void main() { print(f()); spawn o(); sleep(20); print(2); }", 50, "4|1|2|");
    }

    private static String wants(String what) {
        FrostHouse x = Kit.house("class B { static int x = print(8); int f; static void s() { } void m() { } static B b() { return null; } } class A { static B b; static void main() { B q = null; try { " + what + " } catch (e) { print(e); } print(9); } }", 5);
        x.run(200);
        return Kit.out(x);
    }

    // "STATIC, SETSTATIC, NEW, CALL and SPAWN of a static METHOD WANT their class".
    private static void wanted() {
        Kit.due("STATIC", wants("print(B.x);"), "8|0|9|");
        Kit.due("SETSTATIC", wants("B.x = 1;"), "8|9|");
        Kit.due("NEW", wants("q = new B();"), "8|9|");
        Kit.due("CALL of a static one", wants("B.s();"), "8|9|");
        Kit.due("SPAWN of a static one", wants("spawn B.s();"), "8|9|");
        Kit.due("once", wants("B.s(); B.x = 1; q = new B(); q.m();"), "8|9|");
        Kit.due("CALL of an object null", wants("q.m();"), "-1|9|");
        Kit.due("SPAWN of an object null", wants("spawn q.m();"), "-1|9|");
        Kit.due("FIELD", wants("print(q.f);"), "-1|9|");
        Kit.due("a variable of its type", wants("B z = q;"), "9|");
    }

    // "ahead of all else: .. (-8 without room; it is NEW still): behind it the instruction is done again (a STEP each)".
    private static void wantedAheadOfAllElse() {
        // The class is wanted ahead of a ninth thread, and ahead of a 31st frame.
        prints("static void f() { } static void main() { int i = 0; while (i < 7) { i = i + 1; spawn f(); } try { spawn B.s(); } catch (e) { print(e); } } } class B { static int x = print(8); static void s() { }", 50, "8|-11|");
        FrostHouse x = Kit.house("class A { static void h(int n) { if (n > 0) { h(n - 1); return; } B.s(); } static void main() { try { h(28); } catch (e) { print(e); } h(26); print(1); } } class B { static int x = print(8); static void s() { } }", 50);
        while (x.about(3) < 3) {
            x.run(1);
        }
        Kit.due("no room for the initialiser's frame", Kit.out(x), "-8|");
        Kit.due("it is new still", x.klass(1, 0), 0);
        x.run(1000);
        Kit.due("then there is", Kit.out(x), "-8|8|1|");
        Kit.due("it is done", x.klass(1, 0), 2);
        FrostHouse y = Kit.house("class A { static void main() { B.x = 5; } } class B { static int x; }", 50);
        y.run(1);
        Kit.due("INT", y.thread(0, 3), 1);
        y.run(1);
        Kit.due("a step brings the frame", y.thread(0, 1), 2);
        Kit.due("begun", y.klass(1, 0), 1);
        Kit.due("by it", y.klass(1, 1), 0);
        y.run(1);
        Kit.due("a step ends it", y.thread(0, 1), 1);
        Kit.due("done", y.klass(1, 0), 2);
        Kit.due("it stands there still", y.thread(0, 3), 1);
        Kit.due("nothing was taken", y.thread(0, 4), 1);
        y.run(1);
        Kit.due("a step does it", y.thread(0, 3), 2);
        Kit.due("5", y.klass(0, 10), 5);
    }

    // "that throws: FAILED, and -13 is thrown at the instruction that wanted it"; "FAILED: -13".
    private static void initialiserFails() {
        Kit.due("whatever is thrown", Kit.printed("class B { static int x = 1 / 0; static int y = print(1); } class A { static void main() { try { B.x = 1; } catch (e) { print(e); } try { print(B.y); } catch (e) { print(e); } } }", 9), "-13|-13|");
        FrostHouse x = Kit.house("class B { static int y = 7; static int x = f(3); static int f(int n) { if (n == 0) { throw 4; } return f(n - 1); } } class A { static void main() { try { print(B.x); } catch (e) { print(e); } B.y = 1; } }", 9);
        x.run(100);
        Kit.due("in a call of it", Kit.out(x), "-13|");
        Kit.due("failed", x.klass(0, 0), 3);
        Kit.due("by none", x.klass(0, 1), -1);
        Kit.due("what it had set stays", x.klass(0, 10), 7);
        Kit.due("dead by -13", x.thread(0, 8), -13);
        Kit.due("a class whose initialiser wants a failed one", Kit.printed("class B { static int x = 1 / 0; } class C { static int y = B.x; } class A { static void main() { try { print(C.y); } catch (e) { print(e); } try { print(C.y); } catch (e) { print(e); } } }", 9), "-13|-13|");
        Kit.due("caught within", Kit.printed("class B { static int x = g(); static int g() { try { throw 1; } catch (e) { return e + 1; } } } class A { static void main() { print(B.x); } }", 9), "2|");
    }

    // "BEGUN by another thread: the thread waits till that is over, then likewise"; "Threads that wait for it are READY then."
    private static void initialiserWaits() {
        FrostHouse x = Kit.house("class B { static int x = sleep(100) + 5; } class A { static void f() { print(B.x); } static void main() { spawn f(); spawn f(); print(B.x); } }", 5);
        int waiting = 0;
        for (int i = 0; i < 100 && waiting < 2; i++) {
            x.run(1);
            waiting = 0;
            for (int t = 0; t < 3; t++) {
                waiting += x.thread(t, 0) == 6 ? 1 : 0;
            }
        }
        Kit.due("two wait", waiting, 2);
        Kit.due("of one that another has begun", x.thread(x.klass(0, 1), 0), 4);
        x.run(1000);
        Kit.due("all have it", Kit.out(x), "5|5|5|");
        Kit.due("-13 for those that wait, too", Kit.printed("class B { static int x = sleep(100) / 0; } class A { static void f() { try { print(B.x); } catch (e) { print(e); } } static void main() { spawn f(); spawn f(); f(); } }", 5), "-13|-13|-13|");
        // An interrupt does not end it.
        Kit.due("interrupted", Kit.printed("class B { static int x = sleep(100) + 5; } class A { static void f() { print(B.x); print(interrupted()); } static void main() { int t = spawn f(); int u = spawn f(); sleep(50); print(interrupt(u)); } }", 50), "1|5|0|5|1|");
    }

    // "CALL: (-1 for an object null, then -8)".
    private static void callOrder() {
        prints("void m() { print(6); } static void h(int x, A a) { if (x > 0) { h(x - 1, a); return; } a.m(); } static void main() { try { h(28, null); } catch (e) { print(e); } try { h(28, new A()); } catch (e) { print(e); } h(27, new A()); }", 9, "-1|-8|6|");
        prints("int m(int a, int b) { return 10 * a + b; } static void main() { A x = new A(); print(x.m(1, 2) + 100 * x.m(3, 4)); }", 9, "3412|");
        // The args are there ahead of the object's being null.
        prints("int m(int a) { return a; } static int p(int a) { print(a); return a; } static void main() { A x = null; try { x.m(p(5)); } catch (e) { print(e); } }", 9, "5|-1|");
    }

    // "SPAWN: (-1, then -11) likewise a new thread, READY: its number."
    private static void spawnOrder() {
        prints("void m() { } static void main() { int i = 0; A a = new A(); while (i < 7) { i = i + 1; spawn a.m(); } a = null; try { spawn a.m(); } catch (e) { print(e); } try { spawn l.m(); } catch (e) { print(e); } }", 50, "-1|-11|");
        FrostHouse x = house("static void m(int a, text b) { } static void main() { g = spawn m(4, null); while (1) { } }", 50);
        while (x.about(4) < 2) {
            x.run(1);
        }
        int[] want = {0, 1, 0, 0, 0, 2, 0, 0, 0};
        for (int what = 0; what < want.length; what++) {
            Kit.due("the new thread: " + what, x.thread(1, what), want[what]);
        }
        Kit.due("its number is on the stack", x.thread(0, 4), 1);
    }

    // "of the last one: the thread is DEAD, by 0. A thread that is DEAD is not INTERRUPTED; those that join it are READY (0)."
    private static void deadThreads() {
        FrostHouse x = house("static void f() { interrupt(me()); sync (l) { } } static void j() { print(join(1)); } static void main() { sync (l) { spawn f(); spawn j(); spawn j(); sleep(60); } print(9); sleep(90); }", 5);
        while (x.thread(1, 0) != 1) {
            x.run(1);
        }
        Kit.due("it is interrupted", x.thread(1, 7), 1);
        while (x.thread(1, 0) != 7) {
            x.run(1);
        }
        Kit.due("not any more", x.thread(1, 7), 0);
        Kit.due("by 0", x.thread(1, 8), 0);
        Kit.due("those that join it are ready", x.thread(2, 0) == 0 && x.thread(3, 0) == 0, true);
        x.run(1000);
        Kit.due("0", Kit.out(x).replace("9|", ""), "0|0|");
        FrostHouse y = house("static int f() { return 5; } static void m() { throw 5; } static void main() { print(join(spawn m())); }", 5);
        y.run(1000);
        Kit.due("0 whatever it is dead by", Kit.out(y), "0|");
        Kit.due("dead by 5", y.thread(1, 8), 5);
    }

    // "if it is free or the thread's own it is HELD once more; else the thread is BLOCKED, last in its queue. LEAVE: the latest HELD is released once."
    private static void enterAndLeave() {
        prints("static void f(int n) { sync (l) { print(n); } } static void main() { sync (l) { spawn f(1); sleep(9); spawn f(2); sleep(9); spawn f(3); sleep(9); print(0); } print(4); sleep(9); }", 50, "0|4|1|2|3|");
        FrostHouse x = house("static void f() { sync (l) { sleep(9); } } static void main() { sync (l) { sync (l) { spawn f(); sleep(20); } g = 1; sleep(20); } g = 2; sleep(20); }", 50);
        while (x.klass(0, 12) != 1) {
            x.run(1);
        }
        Kit.due("once left, it is still its own", x.thread(1, 0), 1);
        while (x.klass(0, 12) != 2) {
            x.run(1);
        }
        Kit.due("twice left, the other has it", x.thread(1, 6), 1);
        Kit.due("behind its enter", x.thread(1, 3), 2);
        // Other texts and rows have monitors of their own, alike or not.
        prints("static void f() { sync (\"a\" + \"\") { print(1); } } static void main() { sync (\"a\") { spawn f(); sleep(20); print(2); } }", 50, "1|2|");
        prints("static void f() { sync (\"a\") { print(1); } } static void main() { sync (\"a\") { spawn f(); sleep(20); print(2); } }", 50, "2|1|");
        thrown("sync (t) { }", -1);
    }

    // "wait(o), wait(o,0): -4; if it is INTERRUPTED that goes, and -5"; "(t below 0: -12, behind -4, ahead of -5.)"
    private static void waitOrder() {
        thrown("wait(t);", -1);
        thrown("wait(t, -1);", -1);
        thrown("interrupt(0); wait(l, -1);", -4);
        thrown("interrupt(0); wait(l);", -4);
        thrown("interrupt(0); sync (l) { wait(l, -1); }", -12);
        thrown("interrupt(0); sync (l) { wait(l, 0); }", -5);
        thrown("interrupt(0); sync (l) { wait(l); }", -5);
        thrown("interrupt(0); sync (l) { wait(l, 5); }", -5);
        thrown("sync (k) { wait(l); }", -4);
        thrown("notify(t);", -1);
        thrown("notify(l);", -4);
        thrown("all(l);", -4);
        inMain("interrupt(0); try { sync (l) { wait(l, 5); } } catch (e) { print(e); } print(interrupted());", "-5|0|");
        inMain("interrupt(0); try { sync (l) { wait(l, -5); } } catch (e) { print(e); } print(interrupted());", "-12|1|");
        inMain("interrupt(0); try { wait(l); } catch (e) { print(e); } print(interrupted());", "-4|1|");
        // Another thread's monitor is not its own.
        prints("static void f() { try { notify(l); } catch (e) { print(e); } } static void main() { sync (l) { spawn f(); sleep(20); } }", 9, "-4|");
    }

    // "else o is released wholly, ARGS go, and the thread waits, last of those that wait for o"; "When it has o again, as often as before".
    private static void waitReleasesWholly() {
        FrostHouse x = house("static void f() { sync (l) { sync (l) { sync (k) { sync (l) { print(wait(l)); } print(5); } } } } static void main() { spawn f(); sleep(40); sync (l) { print(notify(l)); } try { sync (k) { print(6); } } catch (e) { } }", 5);
        while (x.thread(1, 0) != 2) {
            x.run(1);
        }
        Image image = Image.of(x);
        Kit.due("held in the frame", x.thread(1, 6), 4);
        Kit.due("l has no owner, one waits; k has one", java.util.Arrays.toString(image.sections[6]), "[2, 1, -1, 0, 0, 0, 1, 1, 2, 1, 0, 1, 0, 0]");
        x.run(1000);
        Kit.due("goes on", Kit.out(x), "1|1|5|6|");
        // Behind its wait it has o as often: two LEAVES later it is still its own.
        prints("static void f() { sync (l) { sync (l) { sync (l) { wait(l); } print(1); sleep(30); print(2); } } } static void main() { spawn f(); sleep(40); sync (l) { notify(l); } sleep(20); sync (l) { print(3); } }", 50, "1|2|3|");
    }

    // "wait(o,t) till CLOCK + t, too"; "When its time is there, likewise (with 0)"; "at once it has o, if that is free".
    private static void waitTimes() {
        FrostHouse x = house("static void main() { sync (l) { print(wait(l, 100)); } }", 5);
        while (x.thread(0, 0) != 3) {
            x.run(1);
        }
        long since = x.clock() - 1;
        x.run(1);
        Kit.due("till clock and 100, and a step", x.clock(), since + 101);
        Kit.due("it has o at once", x.thread(0, 0), 0);
        x.run(10);
        Kit.due("0", Kit.out(x), "0|");
        FrostHouse y = house("static void main() { sync (l) { wait(l, 0); } }", 5);
        y.run(100);
        Kit.due("a wait of 0 has no time", y.thread(0, 0), 2);
        Kit.due("stuck", y.about(0), 4);
        // Notified ahead of its time, but it has o behind it: 1.
        prints("static void f() { sync (l) { print(wait(l, 50)); } } static void main() { spawn f(); sleep(20); sync (l) { notify(l); sleep(200); } }", 5, "1|");
        // Its time is there ahead of the notify, but it has o behind that: 0, and none waits.
        prints("static void f() { sync (l) { print(wait(l, 50)); } } static void main() { spawn f(); sleep(20); sync (l) { sleep(200); print(notify(l)); } }", 5, "0|0|");
        prints("static void main() { sync (l) { print(wait(l, 2147483647)); } }", 5, "0|");
    }

    // "notify: the first that waits, all: all, in order, how many: each comes to o's queue (with 1)".
    private static void notifyOrder() {
        String f = "static void f(int n) { sync (l) { wait(l); print(n); } } static void q(int n) { sync (l) { print(n); } } ";
        prints(f + "static void main() { spawn f(1); sleep(15); spawn f(2); sleep(15); spawn f(3); sleep(15); sync (l) { print(notify(l)); spawn q(4); sleep(15); print(all(l)); print(all(l)); print(notify(l)); } }", 50, "1|2|0|0|1|4|2|3|");
        // One that comes to the queue behind a notify is behind those that stand there.
        prints(f + "static void main() { spawn f(1); sleep(15); sync (l) { spawn q(2); sleep(15); print(notify(l)); } }", 50, "1|2|1|");
        // notify of another object does not matter.
        prints(f + "static void main() { spawn f(1); sleep(15); sync (k) { print(all(k)); } sync (l) { print(all(l)); } }", 50, "0|1|1|");
    }

    // "interrupt(n): 0 if there is none such or it is DEAD; 1: one that waits, sleeps, joins: as told ..; else (BLOCKED, waits for a class, is to throw -5, too) it is INTERRUPTED."
    private static void interruptOfEach() {
        inMain("print(interrupt(1)); print(interrupt(-1)); print(interrupt(8)); print(interrupt(2147483647)); print(interrupt(0)); print(interrupt(0)); print(interrupted()); print(interrupted());", "0|0|0|0|1|1|1|0|");
        prints("static void f() { } static void main() { int t = spawn f(); join(t); print(interrupt(t)); }", 5, "0|");
        String tail = " static void main() { int t = spawn f(); sleep(40); print(interrupt(t)); print(interrupt(t)); join(t); }";
        prints("static void f() { try { sleep(900); } catch (e) { print(e); } print(interrupted()); }" + tail, 50, "1|1|-5|1|");
        prints("static void f() { try { join(0); } catch (e) { print(e); } print(interrupted()); }" + tail, 50, "1|1|-5|1|");
        prints("static void f() { sync (l) { try { wait(l); } catch (e) { print(e); } } print(interrupted()); }" + tail, 50, "1|1|-5|1|");
        prints("static void f() { sync (l) { try { wait(l, 900); } catch (e) { print(e); } } print(interrupted()); }" + tail, 50, "1|1|-5|1|");
        // While the monitor is another's: once it comes to the queue with -5, the second one marks it.
        prints("static void f() { sync (l) { try { wait(l); } catch (e) { print(e); } } print(interrupted()); } static void main() { int t = spawn f(); sleep(40); sync (l) { print(interrupt(t)); print(interrupt(t)); print(notify(l)); } join(t); }", 50, "1|1|0|-5|1|");
        // One that was notified gives 1, and is INTERRUPTED.
        prints("static void f() { sync (l) { print(wait(l)); } print(interrupted()); } static void main() { int t = spawn f(); sleep(40); sync (l) { print(notify(l)); print(interrupt(t)); } join(t); }", 50, "1|1|1|1|");
        // The one that waits next is notified when the first one was interrupted.
        prints("static void f(int n) { sync (l) { try { print(wait(l) + n); } catch (e) { print(e); } } } static void main() { int t = spawn f(10); sleep(40); spawn f(20); sleep(40); sync (l) { interrupt(t); print(notify(l)); } }", 50, "1|-5|21|");
        FrostHouse x = house("static void f() { sync (l) { wait(l); } } static void main() { int t = spawn f(); sleep(40); interrupt(t); while (1) { } }", 50);
        while (x.thread(1, 0) != 8) {
            x.run(1);
        }
        Kit.due("it has o at once, held as before", x.thread(1, 6), 1);
        Kit.due("it is not interrupted", x.thread(1, 7), 0);
        x.run(60);
        Kit.due("-5 is thrown in its next step", x.thread(1, 8), -5);
    }

    // "sleep(t): -12; if INTERRUPTED that goes, and -5; 0 at once if t is 0; else it sleeps till CLOCK + t: 0."
    private static void sleepEdges() {
        thrown("sleep(-1);", -12);
        thrown("interrupt(0); sleep(-1);", -12);
        thrown("interrupt(0); sleep(0);", -5);
        thrown("interrupt(0); sleep(9);", -5);
        inMain("interrupt(0); try { sleep(-1); } catch (e) { print(interrupted()); } interrupt(0); try { sleep(1); } catch (e) { print(interrupted()); }", "1|0|");
        inMain("int a = time(); print(sleep(0)); print(time() - a); a = time(); print(sleep(1)); print(time() - a); a = time(); print(sleep(7)); print(time() - a);", "0|6|0|6|0|12|");
        FrostHouse x = Kit.house("class A { static void main() { sleep(0); } }", 1);
        x.run(2);
        Kit.due("at once", x.thread(0, 0), 0);
        Kit.due("its 0", x.thread(0, 4), 1);
    }

    // "join(n): -11; INTERRUPTED likewise; 0 at once if n is DEAD."
    private static void joinEdges() {
        thrown("join(1);", -11);
        thrown("join(-1);", -11);
        thrown("join(8);", -11);
        thrown("interrupt(0); join(1);", -11);
        thrown("interrupt(0); join(0);", -5);
        inMain("interrupt(0); try { join(1); } catch (e) { print(interrupted()); }", "1|");
        prints("static void f() { } static void main() { int t = spawn f(); sleep(9); interrupt(0); try { join(t); } catch (e) { print(e); } print(join(t)); }", 5, "-5|0|");
        FrostHouse x = Kit.house("class A { static void main() { join(0); } }", 1);
        x.run(9);
        Kit.due("itself", x.about(0), 4);
    }

    // What an instruction does not take stays below on the stack, in its place.
    private static void whatStaysBelow() {
        String[] ones = {"(1 < 2)", "(2 <= 2)", "(2 > 1)", "(2 >= 2)", "(1 == 1)", "(1 != 2)", "(l == l)", "(l != k)", "(null == null)", "(3 - 2)", "(1 * 1)", "(5 / 5)", "(5 % 2)", "-(-1)", "!0", "(1 && 1)", "(0 || 1)", "o.f", "r[1]", "s1",
            "o.q(1)", "p(1)", "interrupt(0)", "len(\"x\")", "len(new row[1])", "close(open())", "(print(0) + 1)", "(notify(l) + 1)", "(all(l) + 1)", "(sleep(0) + 1)", "(sleep(1) + 1)", "(join(d) + 1)", "(interrupted() + 1)", "(failures() + 1)", "(arg() + 1)",
            "(me() + 1)", "(time() > 0)", "(hash(l) == hash(l))", "(wait(l, 1) + 1)", "register(new R())", "(register(z) + 1)", "(len(intern(\"\")) + 1)", "(o == null || 1)", "(len(\"a\" + \"b\") - 1)", "(len(\"a\" + 1) - 1)", "(len(1 + \"a\") - 1)", "(checkpoint() * 1)", "(new A() != null)"};
        for (String one : ones) {
            FrostHouse x = Kit.house("res class R { void freeze() { } void thaw() { } } class A { int f; static A l = new A(); static A k = new A(); static int s1 = 1; int q(int a) { return a; } static int p(int a) { return a; } static void e() { } "
                + "static void main() { int d = spawn e(); sleep(9); A o = new A(); o.f = 1; row r = new row[2]; r[1] = 1; R z = new R(); register(z); sync (l) { print(40 + (300 + " + one + ")); print(40 + (300 + (5000 + " + one + "))); } } }", 9);
            x.run(300);
            if (x.about(0) == 2) {
                x.thaw();
                x.run(300);
            }
            if (x.about(0) == 2) {
                x.thaw();
                x.run(300);
            }
            Kit.due(one, Kit.out(x).replace("0|341|0|5341|", "341|5341|"), "341|5341|");
        }
        FrostHouse y = Kit.house("class A { static int s; static void main() { try { checkpoint(); } catch (e) { } try { open(); checkpoint(); } catch (e) { print(40 + failure(0)); print(1 + (2 + failure(s))); } } }", 9);
        y.run(9);
        y.thaw();
        y.run(100);
        Kit.due("failure", Kit.out(y), "140|103|");
        FrostHouse z = Kit.house("class A { static text t; static void main() { int i = 0; print(\"a\" + (\"b\" + (i + (\"c\" + i)))); print(1 + (2 + spawnIt())); } static void f() { } static int spawnIt() { return 10 + spawn f(); } }", 9);
        z.run(100);
        Kit.due("texts, spawns", Kit.out(z), "ab0c0|14|");
    }

    // Behind each S nothing is on the stack.
    private static void nothingStays() {
        FrostHouse x = Kit.house("class A { int f; A n; static int s; static row w = new row[2]; int q() { return 1; } static void v() { } static void main() { A o = new A(); o.f = 1; o.n = o; s = 2; w[1] = 3; o.q(); v(); spawn v(); time(); "
            + "if (s) { } while (0) { } sync (o) { } try { throw 1; } catch (e) { } w[o.f] = o.n.f; print(s); sleep(1); } }", 50);
        int ends = 0;
        while (x.about(0) == 1) {
            int pc = x.thread(0, 3);
            boolean isMain = x.thread(0, 1) == 1 && x.thread(0, 2) == 2;
            int done = isMain ? x.method(2, 100 + pc) : -1;
            x.run(1);
            boolean isBehind = isMain && x.thread(0, 1) == 1 && x.thread(0, 3) != pc && (done == 4 || done == 6 || done == 8 || done == 10 || done == 40 || done == 32 || done == 38 || done == 39);
            if (isBehind) {
                ends++;
                Kit.due("behind instruction " + pc, x.thread(0, 4), 0);
            }
        }
        Kit.due("as many were looked at", ends, 15);
    }

    // Whatever was where an object is made does not matter: each of the 200 is used again and again.
    private static void slotsAgain() {
        for (String make : new String[] {"t = \"n\" + i;", "t = i + \"n\";", "t = \"n\" + \"m\";", "w = new row[3];", "l = new A();", "t = intern(\"n\" + \"m\");"}) {
            int[] steps = new int[3];
            for (int k = 0; k < 3; k++) {
                FrostHouse x = Kit.house("class A { static text t; static row w; static A l; static void main() { A a = new A(); a = null; int i = 0; while (i < " + (k == 2 ? 640 : 20 + 20 * k) + ") { " + make + " i = i + 1; } } }", 9);
                steps[k] = x.run(20000);
                Kit.due("ended", x.about(0), 3);
            }
            Kit.due("as many steps for each: " + make, steps[2] - steps[1], 30 * (steps[1] - steps[0]));
        }
        Kit.due("joins where the first object was", Kit.printed("class A { static text t; static void main() { A a = new A(); a = null; int i = 0; while (i < 450) { t = \"n\" + i; t = i + t; t = t + \"e\"; i = i + 1; } print(t); } }", 9), "449n449e|");
        Kit.due("rows where the first object was", Kit.printed("class A { static row r; static void main() { A a = new A(); a = null; int i = 0; while (i < 650) { r = new row[i % 31]; i = i + 1; } print(len(r)); } }", 9), "29|");
        Kit.due("objects where the first object was", Kit.printed("class A { static A r; int f; static void main() { A a = new A(); a = null; int i = 0; while (i < 650) { r = new A(); r.f = i; i = i + 1; } print(r.f); } }", 9), "649|");
        prints("static void main() { int i = 0; while (i < 450) { t = \"n\" + i; t = i + t; t = t + \"e\"; if (len(t) < 4) { print(t); } i = i + 1; } print(t); print(intern(t) == t); }", 9, "449n449e|1|");
        prints("static void main() { int i = 0; while (i < 300) { A a = new A(); a.f = i; a.n = l; l = a; if (i % 50 == 49) { int c = 0; while (l != null && c < 50) { if (l.f != i - c) { print(i); } l = l.n; c = c + 1; } l = null; } i = i + 1; } print(i); }", 9, "300|");
        prints("static void main() { int i = 0; while (i < 430) { row r = new row[3]; r[i % 3] = i; if (r[0] + r[1] + r[2] != i || hash(r) == hash(l)) { print(i); } i = i + 1; } print(i); }", 9, "430|");
    }

    // Who waits for something else is not READY by this.
    private static void othersStillWait() {
        FrostHouse x = Kit.house("class A { static void f(int n) { sleep(n); } static void j(int t) { join(t); print(t); } static void main() { spawn f(60); spawn f(200); spawn j(1); spawn j(2); sleep(400); } }", 50);
        while (x.thread(1, 0) != 7) {
            x.run(1);
        }
        Kit.due("who joins 1 is ready", x.thread(3, 0), 0);
        Kit.due("who joins 2 is not", x.thread(4, 0), 5);
        x.run(2);
        Kit.due("joins none any more", Image.of(x).sections[7].length > 0 && x.thread(3, 0) == 0 && x.restore(0, 0) != 0, true);
        FrostHouse y = Kit.house("class B { static int x = sleep(60); } class C { static int y = sleep(200); } class A { static void b() { B.x = 1; } static void c() { C.y = 1; } static void main() { spawn b(); spawn b(); spawn c(); spawn c(); sleep(400); } }", 50);
        while (y.klass(0, 0) != 2) {
            y.run(1);
        }
        Kit.due("who waits for B is ready", y.thread(2, 0), 0);
        Kit.due("who waits for C is not", y.thread(4, 0), 6);
        FrostHouse z = house("static void f(A o) { sync (o) { wait(o); print(1); } } static void e(A o) { sync (o) { print(2); } } static void main() { spawn f(l); spawn f(k); sleep(40); sync (k) { spawn e(k); sync (l) { spawn e(l); sleep(40); print(notify(l)); } sleep(40); } sleep(40); }", 50);
        z.run(2000);
        Kit.due("each has its own queue, and its own that wait", Kit.out(z), "1|2|1|2|");
        Kit.due("one waits still", z.about(0), 4);
    }
}
