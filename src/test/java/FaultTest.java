/** Promises 4 and 5: load and fault; each ^ in a text marks the place that is due. */
public final class FaultTest {
    private static final String MAIN = " class M { static void main() { } }";

    public static void main(String[] args) {
        loading();
        tokens();
        syntax();
        depth();
        names();
        variables();
        types();
        callTypes();
        unknownTypes();
        much();
        mainMissing();
        Kit.done();
    }

    private static void check(String marked, int kind) {
        FrostHouse x = new FrostHouse();
        int place = marked.indexOf('^');
        String text = marked.replace("^", "");
        int answer = Kit.load(x, text, 1);
        Kit.due("load of " + marked, answer < 0, kind != 0);
        Kit.due("kind of " + marked, x.fault(0), kind);
        Kit.due("place of " + marked, x.fault(1), kind == 0 ? FrostHouse.NONE : place);
        Kit.due("tape behind load", x.about(1), 0);
    }

    /** A statement in a static main, with some things to use; its own ^ marks the place. */
    private static void inMain(String statement, int kind) {
        check("class A { int f; static int s; A a; row w; text t; void m() { } int n(int q) { return q; } static void sm() { } "
            + "static int si(int q, text r) { return q; } static void main() { A o = new A(); int i = 1; text t = \"\"; row r = new row[3]; "
            + statement + " } } res class R { void freeze() { } void thaw() { } }", kind);
    }

    private static void inMethod(String statement, int kind) {
        check("class A { int f; static int s; A a; void m() { " + statement + " } static void main() { } }", kind);
    }

    private static void loading() {
        FrostHouse x = new FrostHouse();
        Kit.due("fault(0) at first", x.fault(0), 0);
        Kit.due("fault(1) at first", x.fault(1), -1);
        Kit.due("fault(2) at first", x.fault(2), 0);
        Kit.due("fault(3) at first", x.fault(3), -1);
        Kit.due("fault(4)", x.fault(4), -1);
        Kit.due("fault(-1)", x.fault(-1), -1);
        Kit.due("load", Kit.load(x, "class A { void f() { } static void main() { } int g() { return 1; } }", 50), 3);
        Kit.due("about(13)", x.about(13), 3);
        Kit.due("load with a fault", Kit.load(x, "klass", 1), -1);
        Kit.due("fault(0)", x.fault(0), 1);
        Kit.due("fault(1)", x.fault(1), 0);
        Kit.due("the machine stays", x.about(13), 3);
        Kit.due("quantum 0", Kit.load(x, "class A { int x }", 0), -1);
        Kit.due("tape behind quantum 0", x.about(1), 0);
        Kit.due("quantum 51", Kit.load(x, "class A { int x }", 51), -1);
        Kit.due("fault(0) stays", x.fault(0), 1);
        Kit.due("fault(1) stays", x.fault(1), 0);
        Kit.due("load", Kit.load(x, "class A { static void main() { } }", 1), 1);
        Kit.due("fault(0) without", x.fault(0), 0);
        Kit.due("fault(1) without", x.fault(1), -1);
        String blanks = " ".repeat(2000 - 34);
        check("class A { static void main() { } }" + blanks, 0);
        check("klass A { static void main() { } }" + blanks + "^ ", 1);
        FrostHouse y = new FrostHouse();
        Kit.load(y, "klass" + " ".repeat(2500), 1);
        Kit.due("a text above 2,000 bytes", y.fault(1), 2000);
    }

    private static void tokens() {
        check("^", 1);
        check("  \n ^", 1);
        check("^\tclass A { }", 1);
        check("class abcdefghijkl { int abcdefghijkl; }" + MAIN, 0);
        check("class ^abcdefghijklm { }", 1);
        check("class ^_a { }", 1);
        check("class A_1 { int a1_; }" + MAIN, 0);
        check("class ^while { }", 1);
        check("class A { int ^\u00e9; }", 1);
        check("class A { static int x = 2147483647; static int y = 0002147483647; static int z = 00; }" + MAIN, 0);
        check("class A { static int x = ^2147483648; }", 1);
        check("class A { static int x = ^99999999999999999999999; }", 1);
        check("class A { static int x = ^12a; }", 1);
        check("class A { static int x = ^12_; }", 1);
        check("class A { static text x = \"123456789012345678901234\"; static text y = \"\"; static text z = \" ~\"; }" + MAIN, 0);
        check("class A { static text x = ^\"1234567890123456789012345\"; }", 1);
        check("class A { static text x = ^\"12; }", 1);
        check("class A { static text x = ^\"1\n2\"; }", 1);
        check("class A { static int x = 1 ^& 2; }", 1);
        check("class A { static int x = 1 ^| 2; }", 1);
        check("class A { static int x = 1 ^# 2; }", 1);
        check("class A { static int x = 1==2; static int y=!1!=2; static int z=1<=2&&3>=4||5<6; }" + MAIN, 0);
        check("class A { static int x = 1 ==^= 2; }", 1);
        check("class A{static void main(){}}", 0);
    }

    private static void syntax() {
        check("class A { } ^;", 1);
        check("class A { ^", 1);
        check("class A { }  ^static int x;", 1);
        check("res ^A { }", 1);
        check("class A { int x^ = 1; }".replace("x^ =", "x ^="), 1);
        check("class A { void ^= ; }", 1);
        check("class A { void x^; }", 1);
        check("class A { static void x ^= 1; }", 1);
        check("class A { static int x^, y; }", 1);
        check("class A { ^static static int x; }".replace("^static static", "static ^static"), 1);
        check("class A { void f(int^) { } }", 1);
        check("class A { void f(int a,^) { } }", 1);
        check("class A { void f(int a) ^; }", 1);
        check("class A { void f(^void a) { } }", 1);
        check("class A { void f() { ^; } }", 1);
        check("class A { void f() { int x^; } }", 1);
        check("class A { void f() { A x ^+ 1; } }", 1);
        check("class A { void f() { int ^int = 1; } }", 1);
        check("class A { void f() { if ^1 { } } }", 1);
        check("class A { void f() { if (1) { } else ^} }", 1);
        check("class A { void f() { ^else { } } }", 1);
        check("class A { void f() { try ^x(); } }", 1);
        check("class A { void f() { try { } ^} }", 1);
        check("class A { void f() { try { } catch (^1) { } } }", 1);
        check("class A { void f() { try { } catch (e) ^x(); } }", 1);
        check("class A { void f() { sync (1) ^x(); } }", 1);
        check("class A { void f() { throw ^; } }", 1);
        check("class A { void f() { return 1^ } }".replace("1^ }", "1 ^}"), 1);
        check("class A { void f() { a = b ^= c; } }", 1);
        check("class A { void f() { a.^1 = b; } }", 1);
        check("class A { void f() { a[1^; } }", 1);
        check("class A { void f() { a[^] = 1; } }", 1);
        check("class A { void f() { g(1^ 2); } }".replace("1^ 2", "1 ^2"), 1);
        check("class A { void f() { g(1,^); } }", 1);
        check("class A { void f() { g(^,1); } }", 1);
        check("class A { void f() { new A^; } }", 1);
        check("class A { void f() { new A(^1); } }", 1);
        check("class A { void f() { new row^(3); } }", 1);
        check("class A { void f() { new ^int[3]; } }", 1);
        check("class A { void f() { x = 1 + ^; } }", 1);
        check("class A { void f() { x = ^* 1; } }", 1);
        check("class A { void f() { (a^; } }", 1);
        check("class A { void f() { a ^b c; } }".replace("a ^b c", "a b ^c"), 1);
        check("class A { void f() { ^void x = 1; } }", 1);
        check("class A { void f() { text ^= 1; } }", 1);
        check("class A { void f() { } ^1 }", 1);
        check("class A { void f() { } class ^B { } }".replace("class ^B", "^class B"), 1);
    }

    private static String times(String part, int n) {
        return part.repeat(n);
    }

    private static void depth() {
        // Two are open within a method's block.
        check("class A { static void main() { " + times("{", 18) + times("}", 18) + " } }", 0);
        check("class A { static void main() { " + times("{", 18) + "^{" + times("}", 19) + " } }", 1);
        check("class A { static void main() { int x = " + times("(", 18) + "1" + times(")", 18) + "; } }", 0);
        check("class A { static void main() { int x = " + times("(", 18) + "^(1" + times(")", 19) + "; } }", 1);
        check("class A { static void main() { int x = " + times("-", 18) + "1 - 1; } }", 0);
        check("class A { static void main() { int x = " + times("-", 18) + "^-1; } }", 1);
        check("class A { static void main() { int x = " + times("!", 17) + "-1 * !!1; } }", 0);
        check("class A { static void main() { int x = " + times("!", 18) + "^spawn 1; } }", 1);
        check("class A { static void main() { int x = -" + times("(", 17) + "1" + times(")", 17) + "; } }", 0);
        check("class A { static void main() { int x = -" + times("(", 17) + "^-1" + times(")", 17) + "; } }", 1);
        check("class A { static void main() { " + times("if (1) ", 17) + "print(1); } }", 0);
        check("class A { static void main() { " + times("if (1) ", 18) + "^print(1); } }".replace("^print(1)", "print^(1)"), 1);
        check("class A { static void main() { " + times("while (1) ", 18) + "return; } }", 0);
        check("class A { static void main() { " + times("while (1) ", 18) + "while ^(1) return; } }", 1);
        check("class A { static void main() { " + times("if (1) { } else ", 18) + "return; } }", 0);
        check("class A { static void main() { " + times("if (1) { } else ", 18) + "^if (1) return; } }".replace("^if (1)", "if ^(1)"), 1);
        check("class A { static void main() { " + times("if (1) { } else ", 18) + "{ } } }", 0);
        check("class A { static void main() { " + times("while (1) ", 18) + "{ } } }", 0);
        check("class A { static void main() { " + times("while (1) ", 18) + "{ ^{ } } } }", 1);
        check("class A { static int x = " + times("(", 19) + "1" + times(")", 19) + "; static void main() { } }", 0);
        check("class A { static int x = " + times("(", 19) + "^(1" + times(")", 20) + "; static void main() { } }", 1);
        check("class A { static void ^main() { row r = new row[3]; r" + "[r".repeat(17) + "[0]" + "]".repeat(17) + " = 1; } }", 4);
        check("class A { static void main() { row r = new row[3]; r" + "[r".repeat(18) + "^[0]" + "]".repeat(18) + " = 1; } }", 1);
    }

    private static void names() {
        check("class A { } class B { } class ^A { } class A { }" + MAIN, 2);
        check("class A { int a; text b; int ^a; }" + MAIN, 2);
        check("class A { int a; static text ^a; }" + MAIN, 2);
        check("class A { static int a; int ^a; }" + MAIN, 2);
        check("class A { int a; void a() { } }" + MAIN, 0);
        check("class A { void a() { } int ^a() { return 1; } }" + MAIN, 2);
        check("class A { void A() { } A A; } class B { int a; void a() { } }" + MAIN, 0);
        check("class A { ^B b; }" + MAIN, 2);
        check("class A { static ^B b; }" + MAIN, 2);
        check("class A { ^B b() { return null; } }" + MAIN, 2);
        check("class A { void b(int x, ^B b) { } }" + MAIN, 2);
        check("class A { void b() { ^B b = null; } }" + MAIN, 2);
        check("class A { void b() { A b = new ^B(); } }" + MAIN, 2);
        check("class A { static int x = ^y; }" + MAIN, 2);
        check("class A { static int x = y; static int y = 1; }" + MAIN, 0);
        inMain("^zz = 1;", 2);
        inMain("i = ^A;", 2);
        inMain("i = A.s;", 0);
        inMain("i = ^B.s;", 2);
        inMain("i = A.^f;", 2);
        inMain("i = o.^s;", 2);
        inMain("i = o.^zz;", 2);
        inMain("i = A.^zz;", 2);
        inMain("o.^zz();", 2);
        inMain("A.^zz();", 2);
        inMain("^zz();", 2);
        inMain("A.^print(1);", 2);
        inMain("o.^print(1);", 2);
        inMain("i = (^A).s;", 2);
        inMain("print(^zz);", 2);
        inMain("i = \"\" - ^zz;", 2);
        inMain("i = ^zz.yy.xx(qq);".replace("qq", "1"), 2);
        check("class A { static A B; static int x; static void main() { B.^q = 1; } } class B { static int q; }", 2);
        check("class A { static void main() { A B = new A(); B.^q = 1; } } class B { static int q; }", 2);
        check("class A { static void main() { print(1); } static void print(int x) { } }", 0);
        check("class A { static void main() { ^print(\"\"); } static void print(int x) { } }", 3);
        check("class A { int x; static void main() { B.y = 1; } } class B { static int y; }", 0);
    }

    private static void variables() {
        inMain("int ^i = 2;", 2);
        inMain("int j = ^j;", 2);
        inMain("{ int j = 1; } int j = 2;", 0);
        inMain("{ int j = 1; } ^j = 2;", 2);
        inMain("{ int j = 1; { int ^j = 2; } }", 2);
        inMain("if (1) int j = 1; int j = 2;", 0);
        inMain("if (1) int j = 1; else int j = 2; while (0) int j = 3;", 0);
        inMain("if (1) int j = 1; ^j = 2;", 2);
        inMain("try { int j = 1; } catch (j) { j = 2; } int j = 3;", 0);
        inMain("try { } catch (^i) { }", 2);
        inMain("try { } catch (e) { int ^e = 1; }", 2);
        inMain("try { } catch (e) { } ^e = 1;", 2);
        inMain("int s = 1; s = 2; int f = 3; f = 4;", 0);
        check("class A { void f(int a, int ^a) { } }" + MAIN, 2);
        check("class A { void f(int a) { int ^a = 1; } }" + MAIN, 2);
        check("class A { int a; void f(int a) { a = 1; } }" + MAIN, 0);
    }

    private static void types() {
        inMain("if (^\"\") { }", 3);
        inMain("if (^null) { }", 3);
        inMain("while (^(o)) { }", 3);
        inMain("if (i) { }", 0);
        inMain("^i;", 3);
        inMain("^(i + 1);", 3);
        inMain("^-si(1, t);", 3);
        inMain("((si(1, t)));", 0);
        inMain("^o.f;", 3);
        inMain("^new A();", 3);
        inMain("(spawn ((A.sm())));", 0);
        inMain("i = i ^- t;", 3);
        inMain("i = null ^* i;", 3);
        inMain("i = o ^/ i;", 3);
        inMain("i = i ^% r;", 3);
        inMain("i = t ^< t;", 3);
        inMain("i = i ^<= t;", 3);
        inMain("i = i ^> null;", 3);
        inMain("i = r ^>= i;", 3);
        inMain("i = t ^&& i;", 3);
        inMain("i = i ^|| t;", 3);
        inMain("i = ^!t;", 3);
        inMain("i = ^-t;", 3);
        inMain("t = t + t; t = i + t; t = t + i; i = i + i;", 0);
        inMain("t = t ^+ null;", 3);
        inMain("t = null ^+ t;", 3);
        inMain("i = null ^+ null;", 3);
        inMain("t = t ^+ o;", 3);
        inMain("i = r ^+ i;", 3);
        inMain("i = i == i; i = t == t; i = o != null; i = null == r; i = null == null; i = o == new A();", 0);
        inMain("i = i ^== null;", 3);
        inMain("i = i ^!= t;", 3);
        inMain("i = t ^== r;", 3);
        inMain("i = o ^== new R();", 3);
        inMain("i ^= t;", 3);
        inMain("i ^= null;", 3);
        inMain("t = null; o = null; r = null;", 0);
        inMain("o ^= new R();", 3);
        inMain("1 ^= i;", 3);
        inMain("si(1, t) ^= 1;", 3);
        inMain("(i) = 2; ((o.f)) = 3; (r[1]) = 4; (A.s) = 5;", 0);
        inMain("(i + 1) ^= 2;", 3);
        inMain("int j ^= t;", 3);
        inMain("text j ^= 1;", 3);
        inMain("A j = null; row k = null; text l = null;", 0);
        check("class A { static int x ^= \"\"; }" + MAIN, 3);
        check("class A { static text x = null; }" + MAIN, 0);
        inMain("^return 1;", 3);
        inMain("return;", 0);
        check("class A { int f() { ^return; } }" + MAIN, 3);
        check("class A { int f() { ^return null; } }" + MAIN, 3);
        check("class A { A f() { return null; } text g() { return \"\"; } }" + MAIN, 0);
        check("class A { A f() { ^return \"\"; } }" + MAIN, 3);
        inMain("^throw t;", 3);
        inMain("^throw null;", 3);
        inMain("throw 1;", 0);
        inMain("^sync (i) { }", 3);
        inMain("^sync (null) { }", 3);
        inMain("sync (t) { } sync (r) { } sync (o) { }", 0);
        inMain("o = ^this;", 3);
        inMain("i = ^f;", 3);
        inMain("^f = 1;", 3);
        inMethod("A x = this; f = 1; this.f = 2; int y = f;", 0);
        check("class A { int f; static int s = ^f; }" + MAIN, 3);
        check("class A { static A s = ^this; }" + MAIN, 3);
        inMain("i = i^[0];", 3);
        inMain("i = r^[t];", 3);
        inMain("r = new row^[t];", 3);
        inMain("i = t^[0];", 3);
        inMain("i = i^.f;", 3);
        inMain("i = t^.f;", 3);
        inMain("i = null^.f;", 3);
        inMain("i = r^.f();", 3);
        inMain("i = \"\"^.f;", 3);
        inMain("i = 1^.f;", 3);
        check("res class ^R { }" + MAIN, 3);
        check("res class ^R { void freeze() { } }" + MAIN, 3);
        check("res class ^R { void freeze() { } static void thaw() { } }" + MAIN, 3);
        check("res class ^R { void freeze() { } int thaw() { return 1; } }" + MAIN, 3);
        check("res class ^R { void freeze(int x) { } void thaw() { } }" + MAIN, 3);
        check("res class R { void thaw() { } void freeze() { } }" + MAIN, 0);
        check("class R { int freeze() { return 1; } }" + MAIN, 0);
    }

    private static void callTypes() {
        inMain("^si(1);", 3);
        inMain("^si(1, t, 2);", 3);
        inMain("^si(t, 1);", 3);
        inMain("si(1, null);", 0);
        inMain("^si(null, t);", 3);
        inMain("A.^m();", 3);
        inMain("^m();", 3);
        inMain("o.^sm();", 3);
        inMain("o.m(); o.n(1); A.sm(); sm();", 0);
        inMethod("m(); this.m();", 0);
        inMain("i = ^sm();", 3);
        inMain("i = o.^m();", 3);
        inMain("print(^sm());", 3);
        inMain("^sm().f = 1;", 3);
        inMain("i = ^sm()[0];", 3);
        inMain("i = -^sm();", 3);
        inMain("i = (^sm()) + 1;", 3);
        inMain("if (^sm()) { }", 3);
        inMain("throw ^sm();", 3);
        inMain("^return sm();", 3);
        inMain("i = spawn sm(); spawn o.m(); i = spawn (A.sm());", 0);
        inMain("^spawn si(1, t);", 3);
        inMain("^spawn print(1);", 3);
        inMain("^spawn i;", 3);
        inMain("^spawn spawn sm();", 3);
        inMain("spawn ^sm(1);", 3);
        inMain("spawn ^m();", 3);
        inMain("^print();", 3);
        inMain("^print(o);", 3);
        inMain("print(null); print(t); print(i); len(null); len(t); len(r);", 0);
        inMain("^len(i);", 3);
        inMain("^wait(i);", 3);
        inMain("^wait(null);", 3);
        inMain("^wait(o, t);", 3);
        inMain("wait(o, 1); wait(t); notify(r); all(o); hash(t);", 0);
        inMain("^hash(null);", 3);
        inMain("^register(o);", 3);
        inMain("^register(null);", 3);
        inMain("register(new R());", 0);
        inMain("^time(1);", 3);
        inMain("t = intern(t); i = len(intern(\"\"));", 0);
        inMain("i ^= intern(t);", 3);
        inMain("i = open() + close(1) + checkpoint() + failures() + failure(0) + arg() + me() + join(1) + interrupt(1) + interrupted() + sleep(1) + time();", 0);
    }

    private static void unknownTypes() {
        // What is broken has no type: what is around it is broken by its other parts alone.
        inMain("i = 1 + (t ^- 1);", 3);
        inMain("i = t ^- (t - 1);", 3);
        inMain("i = (t ^- 1) - t;", 3);
        inMain("i = r ^+ (t - 1);", 3);
        inMain("i = null ^+ (t - 1);", 3);
        inMain("if (t ^- 1) { }", 3);
        inMain("o = (t ^- 1);", 3);
        inMain("i = o == (t ^- 1);", 3);
        inMain("i = si((t ^- 1), t);", 3);
        inMain("i = si((t ^|| 1), t);", 3);
        inMain("i = si(1, (1 ^|| t));", 3);
        inMain("i = len((i ^&& t));", 3);
        inMain("i = ^si((t - 1), 2);", 3);
        inMain("i = ^si((t - 1));", 3);
        inMain("o ^= si((t - 1), t);", 3);
        inMain("t ^= si(1, t) + len(t) + 1 + i;", 3);
        inMain("i = i^[t - 1];", 3);
        inMain("i = r[t ^- 1];", 3);
        inMain("i = wait(t ^- 1);", 3);
        inMain("i = (t ^- 1).f.g(1)[2];", 3);
        inMain("^(1 - t);", 3);
        inMain("1 ^= (t - 1);", 3);
        inMain("throw t ^- 1;", 3);
        inMain("sync (t ^- 1) { }", 3);
        inMain("spawn (t ^- 1);".replace("^", "").replace("spawn", "^spawn"), 3);
    }

    private static void much() {
        StringBuilder classes = new StringBuilder();
        for (int i = 0; i < 7; i++) {
            classes.append("class C").append(i).append(" { } ");
        }
        check(classes + MAIN, 0);
        check(classes + MAIN + " class ^X { } class Y { }", 4);
        check(classes + MAIN + " class X { } class Y { int x; text ^x; }", 2);
        String fields = "int a; int b; int c; int d; int e; int f; int g; int h; ";
        String statics = fields.replace("int ", "static int s");
        check("class A { " + fields + statics + "}" + MAIN, 0);
        check("class A { " + fields + statics + "int ^i; int j; }" + MAIN, 4);
        check("class A { " + fields + statics + "static int ^i; }" + MAIN, 4);
        check("class A { " + statics + "} class B { " + statics + "}" + MAIN, 0);
        StringBuilder methods = new StringBuilder();
        for (int i = 0; i < 29; i++) {
            methods.append("void m").append(i).append("() { } ");
        }
        check("class A { " + methods + "}" + MAIN, 0);
        check("class A { " + methods + "}" + MAIN + "class B { int ^x() { return 1; } }", 4);
        check("class A { void f(int a, int b, int c, int d) { } }" + MAIN, 0);
        check("class A { void f(int a, int b, int c, int d, int ^e) { } }" + MAIN, 4);
        check("class A { void f(int a, int b, int c, int d, int e, int ^a) { } }" + MAIN, 2);
        StringBuilder variables = new StringBuilder();
        for (int i = 0; i < 12; i++) {
            variables.append("int v").append(i).append(" = 1; ");
        }
        check("class A { static void f() { " + variables + "} }" + MAIN, 0);
        check("class A { static void f() { " + variables + "int ^x = 1; } }" + MAIN, 4);
        check("class A { static void f() { " + variables + "try { } catch (^x) { } } }" + MAIN, 4);
        check("class A { void f() { " + variables.toString().replace("v11", "^v11") + "} }" + MAIN, 4);
        check("class A { static void f() { { " + variables + "} { int x = 1; } } }" + MAIN, 0);
        StringBuilder strings = new StringBuilder("len(\"\")");
        for (int i = 0; i < 39; i++) {
            strings.append("+ len(\"\")");
        }
        check("class A { static int x = " + strings + "; }" + MAIN, 0);
        check("class A { static int x = " + strings + "; void f() { text t = ^\"\"; t = \"\"; } }" + MAIN, 4);
        lengths();
        // Ten values stand on the stack with nine of them ahead of the tenth.
        check("class A { static void f() { int x = " + "1 + (".repeat(9) + "1" + ")".repeat(9) + "; } }" + MAIN, 0);
        check("class A { static void ^f() { int x = " + "1 + (".repeat(10) + "1" + ")".repeat(10) + "; } }" + MAIN, 4);
        check("class A { static int x = " + "1 + (".repeat(9) + "1" + ")".repeat(9) + "; }" + MAIN, 0);
        check("class ^A { static int x = " + "1 + (".repeat(10) + "1" + ")".repeat(10) + "; }" + MAIN, 4);
    }

    private static void lengths() {
        // x = x; makes two instructions, x; with a minus three: 125 of the first and the return are 251.
        check("class A { static void f(int x) { " + "x=x;".repeat(124) + " } }" + MAIN, 0);
        check("class A { static void f(int x) { " + "x=x;".repeat(123) + "x=-x; } }" + MAIN, 0);
        check("class A { static void ^f(int x) { " + "x=x;".repeat(125) + " } }" + MAIN, 4);
        check("class ^A { static int x = " + "1+".repeat(124) + "1; }" + MAIN, 4);
        check("class A { static int x = " + "1+".repeat(123) + "1; }" + MAIN, 0);
        check("class A { static void ^f(int x) { " + "x=x;".repeat(125) + " } static void g(int x) { " + "x=x;".repeat(130) + "} }" + MAIN, 4);
    }

    private static void mainMissing() {
        check("class A { }  ^", 5);
        check("class A { void main() { } }^", 5);
        check("class A { static int main() { return 1; } }^", 5);
        check("class A { static void main(int x) { } }^", 5);
        check("class A { void main() { } } class B { static void main() { } }", 0);
    }
}
