import java.util.ArrayList;
import java.util.List;
import java.util.Random;

/** Weaves programs by chance that are right by syntax, names and types; the same seed always weaves the same one. */
final class Weaver {
    private final Random random;
    private final StringBuilder text = new StringBuilder();
    private final List<String> names = new ArrayList<>();
    private final List<String> types = new ArrayList<>();
    private boolean isStatic;
    private int made;
    private int depth;
    private int loops;

    Weaver(long seed) {
        random = new Random(seed);
    }

    private int pick(int n) {
        return random.nextInt(n);
    }

    String weave() {
        text.append("res class R { int k; R next; static int c = ").append(initial()).append(";\n");
        text.append("void freeze() { ").append(callback()).append("}\n");
        text.append("void thaw() { ").append(callback()).append("} }\n");
        text.append("class N { int v; N n; text t; row w; static N s = new N(); static text u = ").append(pick(2) == 0 ? "\"q\"" : "null").append(";\n");
        method("int", "len2", "int a, text b", true);
        method("N", "turn", "N o", false);
        text.append("}\nclass A { static int g; static R r = new R(); static N l = new N(); static row w = new row[5]; static text t; int f;\n");
        method("void", "job", "int a", true);
        method("int", "calc", "int a, int b", false);
        method("void", "main", "", true);
        return text.append("}\n").toString();
    }

    private String initial() {
        switch (pick(5)) {
            case 0: return "7 / (time() % 3)";
            case 1: return "5";
            case 2: return "N.len2(3, \"x\")";
            default: return "sleep(" + pick(9) + ") + 5";
        }
    }

    private String callback() {
        switch (pick(6)) {
            case 0: return "print(k); throw 9; ";
            case 1: return "k = k + 1; sync (N.s) { print(me()); } ";
            case 2: return "sleep(" + pick(4) + "); ";
            case 3: return "checkpoint(); ";
            case 4: return "try { throw k; } catch (e) { k = e + 1; } ";
            default: return "";
        }
    }

    private void method(String gives, String name, String parameters, boolean itsStatic) {
        isStatic = itsStatic;
        names.clear();
        types.clear();
        for (String parameter : parameters.split(", ")) {
            if (!parameter.isEmpty()) {
                types.add(parameter.split(" ")[0]);
                names.add(parameter.split(" ")[1]);
            }
        }
        loops = 0;
        text.append(itsStatic ? "static " : "").append(gives).append(" ").append(name).append("(").append(parameters).append(") {");
        if (name.equals("main")) {
            text.append("register(A.r); ");
            int n = 1 + pick(3);
            for (int i = 0; i < n; i++) {
                text.append("spawn A.job(").append(i).append("); ");
            }
        }
        int n = 2 + pick(4);
        for (int i = 0; i < n; i++) {
            boolean isTried = pick(2) == 0;
            int seen = names.size();
            text.append(isTried ? "try {" : "");
            statement();
            text.append(isTried ? "} catch (q) { print(q); }" : "");
            while (isTried && names.size() > seen) {
                names.remove(names.size() - 1);
                types.remove(types.size() - 1);
            }
        }
        if (!gives.equals("void")) {
            text.append("return ").append(expression(gives, 2)).append(";");
        }
        text.append("}\n");
    }

    private void block() {
        int seen = names.size();
        text.append("{");
        int n = pick(3);
        for (int i = 0; i < n; i++) {
            statement();
        }
        text.append("}");
        while (names.size() > seen) {
            names.remove(names.size() - 1);
            types.remove(types.size() - 1);
        }
    }

    private void statement() {
        depth++;
        int choice = depth > 3 ? 6 + pick(12) : pick(18);
        switch (choice) {
            case 0:
                text.append("if (").append(expression("int", 2)).append(") ");
                block();
                if (pick(2) == 0) {
                    text.append(" else ");
                    block();
                }
                break;
            case 1:
                if (loops < 2) {
                    loops++;
                    text.append("while (").append(expression("int", 2)).append(") ");
                    block();
                }
                break;
            case 2:
            case 3:
                text.append("try ");
                block();
                String caught = "e" + made++;
                text.append(" catch (").append(caught).append(") ");
                int seen = names.size();
                names.add(caught);
                types.add("int");
                block();
                names.remove(seen);
                types.remove(seen);
                break;
            case 4:
            case 5:
                text.append("sync (").append(expression(pick(4) == 0 ? "R" : "N", 1)).append(") ");
                block();
                break;
            case 6:
            case 7:
                String type = type();
                text.append(type).append(" v").append(made).append(" = ").append(expression(type, 2)).append("; ");
                names.add("v" + made++);
                types.add(type);
                break;
            case 8:
            case 9:
                assignment();
                break;
            case 10:
                if (pick(4) == 0) {
                    text.append("throw ").append(expression("int", 1)).append("; ");
                } else {
                    text.append("print(").append(expression("text", 1)).append("); ");
                }
                break;
            case 11:
                text.append("sync (A.l) { ").append(pick(2) == 0 ? "wait(A.l" : "all(A.l")
                    .append(text.charAt(text.length() - 5) == 't' && pick(2) == 0 ? ", " + pick(9) + ");" : ");").append(" } ");
                break;
            case 12:
                text.append("print(checkpoint()); ");
                break;
            case 13:
                text.append("sleep(").append(pick(6)).append("); ");
                break;
            default:
                text.append(call()).append("; ");
                break;
        }
        depth--;
    }

    private String call() {
        switch (pick(14)) {
            case 0: return "interrupt(" + expression("int", 1) + ")";
            case 1: return "join(" + pick(4) + ")";
            case 2: return "spawn A.job(" + pick(9) + ")";
            case 3: return "notify(A.l)";
            case 4: return "print(" + expression("int", 2) + ")";
            case 5: return "wait(A.l, " + (pick(9) - 1) + ")";
            case 6: return "register(" + expression("R", 1) + ")";
            case 7: return "close(open())";
            case 8: return "print(hash(" + expression("N", 1) + "))";
            case 9: return "interrupted()";
            case 10: return "print(intern(" + expression("text", 1) + "))";
            case 11: return "print(failures())";
            case 12: return "(new A()).calc(1, " + expression("int", 1) + ")";
            default: return "print(failure(" + pick(2) + "))";
        }
    }

    private void assignment() {
        switch (pick(7)) {
            case 0: text.append("A.g = ").append(expression("int", 2)); break;
            case 1: text.append("A.w[").append(expression("int", 1)).append("] = ").append(expression("int", 2)); break;
            case 2: text.append(expression("N", 1)).append(".n = ").append(expression("N", 1)); break;
            case 3: text.append("A.t = ").append(expression("text", 2)); break;
            case 4: text.append("A.r = ").append(expression("R", 1)); break;
            case 5: text.append("A.l.w = ").append(expression("row", 1)); break;
            default: text.append("N.s = ").append(expression("N", 2)); break;
        }
        text.append("; ");
    }

    private String type() {
        String[] all = {"int", "text", "row", "N", "R"};
        return all[pick(all.length)];
    }

    private String expression(String type, int deep) {
        List<String> fit = new ArrayList<>();
        for (int i = 0; i < names.size(); i++) {
            if (types.get(i).equals(type)) {
                fit.add(names.get(i));
            }
        }
        if (!fit.isEmpty() && pick(3) == 0) {
            return fit.get(pick(fit.size()));
        }
        switch (type) {
            case "int": return intExpression(deep);
            case "text": return textExpression(deep);
            case "row": return pick(2) == 0 ? "A.w" : "new row[" + pick(7) + "]";
            case "N": return nodeExpression(deep);
            default: return pick(3) == 0 ? "new R()" : pick(5) == 0 ? "A.r.next" : "A.r";
        }
    }

    private String intExpression(int deep) {
        if (deep == 0) {
            return pick(2) == 0 ? "A.g" : Integer.toString(pick(5));
        }
        String[] signs = {"+", "-", "*", "/", "%", "<", "<=", ">", ">=", "==", "!=", "&&", "||"};
        switch (pick(12)) {
            case 0: return "-" + intExpression(deep - 1);
            case 1: return "!" + intExpression(deep - 1);
            case 2: return "A.w[" + intExpression(deep - 1) + "]";
            case 3: return "(" + expression("N", deep - 1) + " == " + expression("N", deep - 1) + ")";
            case 4: return "len(" + expression("text", deep - 1) + ")";
            case 5: return "N.len2(" + intExpression(deep - 1) + ", " + expression("text", deep - 1) + ")";
            case 6: return "time()";
            case 7: return "R.c";
            case 8: return expression("N", deep - 1) + ".v";
            case 9: return "me()";
            default:
                return "(" + intExpression(deep - 1) + " " + signs[pick(signs.length)] + " " + intExpression(deep - 1) + ")";
        }
    }

    private String textExpression(int deep) {
        switch (pick(deep == 0 ? 3 : 7)) {
            case 0: return "A.t";
            case 1: return "\"a" + pick(3) + "\"";
            case 2: return pick(3) == 0 ? "N.u" : "\"\"";
            case 3: return "(" + expression("text", deep - 1) + " + " + expression("text", deep - 1) + ")";
            case 4: return "(" + expression("text", deep - 1) + " + " + expression("int", deep - 1) + ")";
            case 5: return "(" + expression("int", deep - 1) + " + " + expression("text", deep - 1) + ")";
            default: return "intern(" + expression("text", deep - 1) + ")";
        }
    }

    private String nodeExpression(int deep) {
        switch (pick(deep == 0 ? 4 : 6)) {
            case 0: return "N.s";
            case 1: return "new N()";
            case 2:
            case 3: return "A.l";
            case 4: return expression("N", deep - 1).replace("null", "A.l") + ".n";
            default: return "N.s.turn(" + expression("N", deep - 1) + ")";
        }
    }
}
