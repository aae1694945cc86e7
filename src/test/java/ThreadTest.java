/** Promise 17, thread, and what threads do: turns, sleep, join, monitors, wait, notify, interrupt. */
public final class ThreadTest {
    private static final String HEAD = "class A { static A l = new A(); static A k = new A(); static int g; ";

    public static void main(String[] args) {
        turns();
        sleeping();
        joining();
        monitors();
        waiting();
        timedWaiting();
        interrupts();
        interruptedWaits();
        stuck();
        telling();
        Kit.done();
    }

    private static void prints(String text, int quantum, String want) {
        Kit.due(text, Kit.printed(HEAD + text + " }", quantum), want);
    }

    private static String hands(FrostHouse x, int steps) {
        StringBuilder all = new StringBuilder();
        for (int i = 0; i < steps; i++) {
            x.run(1);
            all.append(x.about(12));
        }
        return all.toString();
    }

    private static void turns() {
        String text = "class A { static void f() { while (1) { } } static void main() { spawn f(); spawn f(); while (1) { } } }";
        // Three steps till the first spawn is done: the class is wanted, its initialiser returns, then it is.
        Kit.due("quantum 3", hands(Kit.house(text, 3), 15), "000111000111222");
        Kit.due("quantum 1", hands(Kit.house(text, 1), 12), "000101012012");
        Kit.due("quantum 50", hands(Kit.house(text, 50), 101), "0".repeat(50) + "1".repeat(50) + "2");
        FrostHouse x = Kit.house("class A { static void f() { } static void main() { spawn f(); sleep(2); sleep(2); while (1) { } } }", 10);
        // INT, initialiser .. sleep at clock 5; the other's one step at 6; the clock is 7 when the first one's time is there.
        Kit.due("hands", hands(x, 7), "0000001");
        Kit.due("clock", x.clock(), 7);
        Kit.due("it is ready then", hands(x, 1), "0");
        Kit.due("clock", x.clock(), 8);
        prints("static void f(int n) { print(n); } static void main() { int i = 0; while (i < 7) { spawn f(i); i = i + 1; } try { spawn f(8); } catch (e) { print(e); } }",
            50, "0|1|2|3|4|5|6|-11|");
        prints("void f(int n) { print(g + n); } static void main() { A a = null; g = 3; print(spawn l.f(2)); try { spawn a.f(1); } catch (e) { print(e); } }",
            50, "1|-1|5|");
        prints("static void f() { print(me()); print(spawn g()); } static void g() { print(me()); } static void main() { spawn f(); print(me()); }", 50, "0|1|2|2|");
    }

    private static void sleeping() {
        FrostHouse x = Kit.house("class A { static void main() { sleep(10); sleep(0); print(7); } }", 9);
        Kit.due("steps", x.run(2), 2);
        Kit.due("it sleeps", x.thread(0, 0), 4);
        Kit.due("clock", x.clock(), 2);
        Kit.due("its sleep's arg went", x.thread(0, 4), 0);
        Kit.due("a step more", x.run(1), 1);
        Kit.due("from 1 on 10, and a step", x.clock(), 12);
        Kit.due("it is ready", x.thread(0, 0), 0);
        x.run(3);
        Kit.due("sleep(0) takes its step alone", x.clock(), 15);
        prints("static void f(int n) { sleep(n); print(n); } static void main() { spawn f(30); spawn f(10); spawn f(20); print(sleep(15)); }", 5, "10|0|20|30|");
        FrostHouse y = Kit.house("class A { static void main() { sleep(2147483647); print(time()); } }", 1);
        y.run(100);
        Kit.due("a long sleep", Kit.out(y), Integer.toString(2147483647 + 1 + 1) + "|");
        Kit.due("a long clock", y.clock(), 2147483653L);
    }

    private static void joining() {
        prints("static void f() { sleep(9); print(1); } static void main() { int t = spawn f(); print(join(t)); print(join(t)); try { join(2); } catch (e) { print(e); } }",
            3, "1|0|0|-11|");
        prints("static void f() { throw 3; } static void main() { int t = spawn f(); print(join(t)); }", 3, "0|");
        FrostHouse x = Kit.house("class A { static void main() { join(0); } }", 1);
        x.run(10);
        Kit.due("who joins itself is stuck", x.about(0), 4);
        Kit.due("its state", x.thread(0, 0), 5);
    }

    private static void monitors() {
        String in = "static void f(int n) { sync (l) { print(n); sleep(20); print(n); } } ";
        prints(in + "static void main() { spawn f(1); spawn f(2); spawn f(3); }", 1, "1|1|2|2|3|3|");
        prints(in + "static void main() { sync (l) { sync (l) { spawn f(3); spawn f(2); spawn f(1); sleep(50); } print(0); } print(9); }", 50, "0|9|3|3|2|2|1|1|");
        prints("static int f() { sync (l) { return 1; } } static void g() { sync (l) { print(2); } } static void main() { spawn g(); sync (l) { sleep(5); print(f()); } }", 50, "1|2|");
        prints("static void f() { sync (l) { sync (k) { throw 1; } } } static void g() { sync (k) { sync (l) { print(2); } } } "
            + "static void main() { sync (k) { try { f(); } catch (e) { print(e); } spawn g(); sleep(9); print(1); } }", 50, "1|1|2|");
        prints("static void f() { sync (\"x\") { print(1); } } static void main() { sync (\"x\") { spawn f(); sleep(9); print(0); } row r = new row[1]; sync (r) { sync (r) { print(2); } } }",
            50, "0|2|1|");
        FrostHouse x = Kit.house(HEAD + "static void f() { sync (l) { g = 1; } } static void main() { sync (l) { spawn f(); sleep(5); } while (1) { } } }", 1);
        x.run(13);
        Kit.due("one is blocked", x.thread(1, 0), 1);
        Kit.due("at its enter", x.thread(1, 3), 1);
        Kit.due("its object went", x.thread(1, 4), 0);
        Kit.due("it holds nothing", x.thread(1, 6), 0);
        while (x.thread(1, 0) == 1) {
            x.run(1);
        }
        Kit.due("it has it", x.thread(1, 6), 1);
        Kit.due("behind its enter", x.thread(1, 3), 2);
        Kit.due("the other one has not", x.thread(0, 6), 0);
    }

    private static void waiting() {
        String w = "static void w(int n) { sync (l) { sync (l) { print(wait(l)); print(n); } } } ";
        prints(w + "static void main() { spawn w(1); spawn w(2); spawn w(3); sleep(30); sync (l) { print(notify(l)); print(0); } sleep(30); sync (l) { print(all(l)); print(all(l)); print(notify(l)); } }",
            2, "1|0|1|1|2|0|0|1|2|1|3|");
        prints(w + "static void main() { print(1 + 1); spawn w(4); sleep(20); sync (l) { sync (l) { notify(l); sleep(20); print(5); } print(6); } print(7); }", 50, "2|5|6|7|1|4|");
        FrostHouse x = Kit.house(HEAD + w + "static void main() { spawn w(1); sleep(20); sync (l) { notify(l); sleep(9); } } }", 50);
        while (x.thread(1, 0) != 2) {
            x.run(1);
        }
        Kit.due("it is still held", x.thread(1, 6), 2);
        Kit.due("its arg went", x.thread(1, 4), 0);
        while (x.thread(1, 0) != 1) {
            x.run(1);
        }
        Kit.due("blocked behind the wait", x.thread(1, 3), 5);
        x.run(100);
        Kit.due("ended", x.about(0), 3);
        prints("static void main() { sync (l) { try { sync (k) { wait(l, 3); } } catch (e) { } print(g); notify(l); } }", 1, "0|");
    }

    private static void timedWaiting() {
        prints("static void main() { sync (l) { int t = time(); print(wait(l, 10)); print(time() - t); } }", 5, "0|16|");
        prints("static void w(int n) { sync (l) { print(wait(l, n)); print(n); } } static void main() { spawn w(400); spawn w(20); spawn w(0); sleep(50); sync (l) { print(notify(l)); } "
            + "sleep(40); sync (l) { print(notify(l)); } }", 5, "0|20|1|1|400|1|1|0|");
        prints("static void w() { sync (l) { print(wait(l, 5)); print(2); } } static void main() { spawn w(); sleep(3); sync (l) { sleep(50); print(notify(l)); print(1); } }", 5, "0|1|0|2|");
        FrostHouse x = Kit.house(HEAD + "static void main() { sync (l) { wait(l, 500); } } }", 5);
        while (x.thread(0, 0) == 0) {
            x.run(1);
        }
        Kit.due("waits with a time", x.thread(0, 0), 3);
        long clock = x.clock();
        x.run(1);
        Kit.due("till then", x.clock(), clock + 500);
    }

    private static void interrupts() {
        prints("static void main() { print(interrupted()); print(interrupt(0)); print(interrupted()); print(interrupted()); print(interrupt(1)); print(interrupt(-1)); print(interrupt(8)); }",
            5, "0|1|1|0|0|0|0|");
        prints("static void f() { try { sleep(100); } catch (e) { print(e); } print(interrupted()); } static void main() { int t = spawn f(); sleep(5); print(interrupt(t)); join(t); print(interrupt(t)); }",
            5, "1|-5|0|0|");
        prints("static void f() { try { join(0); } catch (e) { print(e); } } static void main() { int t = spawn f(); sleep(15); print(interrupt(t)); print(interrupt(t)); }",
            50, "1|1|-5|");
        prints("static void f() { try { sync (l) { print(1); } sleep(3); } catch (e) { print(e); } } static void main() { sync (l) { int t = spawn f(); sleep(15); print(interrupt(t)); sleep(20); } }",
            50, "1|1|-5|");
        FrostHouse x = Kit.house("class A { static void f() { join(0); } static void main() { int t = spawn f(); sleep(9); interrupt(t); interrupt(t); print(2); while (1) { } } }", 50);
        while (x.about(3) == 0) {
            x.run(1);
        }
        Kit.due("to throw", x.thread(1, 0), 8);
        Kit.due("and interrupted", x.thread(1, 7), 1);
        Kit.due("its arg went", x.thread(1, 4), 0);
        x.run(100);
        Kit.due("dead by -5", x.thread(1, 8), -5);
        Kit.due("not interrupted any more", x.thread(1, 7), 0);
    }

    private static void interruptedWaits() {
        String f = "static void f() { sync (l) { try { wait(l, 0); print(1); } catch (e) { print(e); notify(l); print(2); } } } ";
        prints(f + "static void main() { int t = spawn f(); sleep(15); sync (l) { print(interrupt(t)); print(notify(l)); sleep(15); print(3); } }", 5, "1|0|3|-5|2|");
        prints(f + "static void main() { int t = spawn f(); sleep(15); print(interrupt(t)); print(interrupt(t)); sleep(20); print(7); }", 50, "1|1|-5|2|7|");
        FrostHouse x = Kit.house(HEAD + f + "static void main() { int t = spawn f(); sleep(15); interrupt(t); while (1) { } } }", 50);
        while (x.thread(1, 0) != 8) {
            x.run(1);
        }
        Kit.due("it holds again", x.thread(1, 6), 1);
        prints("static void f() { sync (l) { print(wait(l)); print(interrupted()); } } static void main() { int t = spawn f(); sleep(15); sync (l) { notify(l); print(interrupt(t)); } }", 5, "1|1|1|");
        prints("static void f() { sync (l) { try { wait(l); } catch (e) { print(e); } } } static void main() { int t = spawn f(); sleep(15); interrupt(t); sync (l) { print(6); } }", 50, "-5|6|");
    }

    private static void stuck() {
        FrostHouse x = Kit.house(HEAD + "static void main() { sync (l) { wait(l); } } }", 5);
        x.run(100);
        Kit.due("stuck", x.about(0), 4);
        FrostHouse y = Kit.house(HEAD + "static void f() { sync (k) { sleep(5); sync (l) { } } } static void main() { sync (l) { spawn f(); sleep(20); sync (k) { } } } }", 5);
        y.run(1000);
        Kit.due("each has the other's", y.about(0), 4);
        // Its time comes while the monitor is another's, who waits for it: then there is no step any more.
        FrostHouse z = Kit.house(HEAD + "static void f() { sync (l) { wait(l, 50); } } static void main() { int t = spawn f(); sleep(20); sync (l) { join(t); } } }", 5);
        int steps = z.run(1000);
        Kit.due("no step any more", z.about(0), 4);
        Kit.due("blocked behind its wait", z.thread(1, 0), 1);
        Kit.due("no step", z.run(1000), 0);
        Kit.due("steps ahead of that", steps < z.clock(), true);
    }

    private static void telling() {
        FrostHouse x = new FrostHouse();
        Kit.due("without a machine", x.thread(0, 0), -1);
        Kit.load(x, HEAD + "static void f(int a, int b) { int c = 1; sync (k) { print(c + (a + (b + sleep(50)))); } } static void main() { spawn f(3, 4); sleep(100); } }", 5);
        Kit.due("none such", x.thread(1, 0), -1);
        Kit.due("none such", x.thread(-1, 0), -1);
        Kit.due("none such", x.thread(8, 0), -1);
        while (x.thread(1, 0) != 4) {
            x.run(1);
        }
        int[] want = {4, 1, 0, 8, 3, 3, 1, 0, 0};
        for (int what = 0; what < want.length; what++) {
            Kit.due("thread(1, " + what + ")", x.thread(1, what), want[what]);
        }
        Kit.due("thread(1, 9)", x.thread(1, 9), -1);
        Kit.due("thread(1, -1)", x.thread(1, -1), -1);
        x.run(1000);
        int[] dead = {7, 0, -1, -1, -1, -1, -1, 0, 0};
        for (int what = 0; what < dead.length; what++) {
            Kit.due("dead: thread(1, " + what + ")", x.thread(1, what), dead[what]);
        }
    }
}
