/** Promise 4: read, and part 1 of the terms: which texts are right, and where the others are wrong. */
public final class ReadTest {
    private static final String[] KEYWORDS = ("kind below way over free throws do call throw set if else while loop break"
        + " return try catch finally run").split(" ");

    public static void main(String[] args) {
        Probe probe = new Probe("ReadTest");
        rightTexts(probe);
        wrongUnits(probe);
        wrongStatements(probe);
        wrongTries(probe);
        wrongTokens(probe);
        limitsOfUnits(probe);
        limitsOfLists(probe);
        limitOfBraces(probe);
        whatStays(probe);
        probe.end();
    }

    private static void rightTexts(Probe probe) {
        probe.right("", 0);
        probe.right(" \n ", 0);
        probe.right("kind a below b;", 0);
        probe.right("way f;", 1);
        probe.right("way f{}", 1);
        probe.right("way f over g free throws a,b,c,d;way g{}", 2);
        probe.right("way f over g throws a{do;call f;call f{};throw a;set e;if{}if{}else{}while{}loop{}break;return;}", 1);
        probe.right("way f{try(f){}try{}catch(a e){}try{}finally{}try(f,g){}catch(a|b e){}catch(c e){}finally{}run{};run{}throws a,b;{}}", 1);
        probe.right("\nway\nplain\n{\ndo\n;\n}\n", 1);
        probe.right("way abcdefgh;", 1);
        probe.right("way kinds;way d;way doo;way tryy;", 4);
    }

    private static void wrongUnits(Probe probe) {
        probe.wrongAtMark("^foo");
        probe.wrongAtMark("  ^;");
        probe.wrongAtMark("^do;");
        probe.wrongAtMark("kind^");
        probe.wrongAtMark("kind   ^");
        probe.wrongAtMark("kind ^;");
        probe.wrongAtMark("kind a ^over b;");
        probe.wrongAtMark("kind a below ^;");
        probe.wrongAtMark("kind a below plain^");
        probe.wrongAtMark("kind a below plain^{ }");
        probe.wrongAtMark("kind a below plain^, b;");
        probe.wrongAtMark("way ^{ }");
        probe.wrongAtMark("way f ^");
        probe.wrongAtMark("way f ^way g;");
        probe.wrongAtMark("way f over ^;");
        probe.wrongAtMark("way f over g^, h;");
        probe.wrongAtMark("way f free ^over g;");
        probe.wrongAtMark("way f free ^free;");
        probe.wrongAtMark("way f throws ^;");
        probe.wrongAtMark("way f throws a, ^;");
        probe.wrongAtMark("way f throws a ^| b;");
        probe.wrongAtMark("way f throws a ^b;");
        probe.wrongAtMark("way f throws a ^free;");
        probe.wrongAtMark("way f; ^;");
        probe.wrongAtMark("way f { } ^;");
        probe.wrongAtMark("way f { } ^}");
        probe.wrongAtMark("way f { ^");
        probe.wrongAtMark("way f { ^way g; }");
        probe.wrongAtMark("way f { ^kind a below plain; }");
    }

    private static void wrongStatements(Probe probe) {
        probe.wrongAtMark("way f { do ^}");
        probe.wrongAtMark("way f { do; ^; }");
        probe.wrongAtMark("way f { ^a; }");
        probe.wrongAtMark("way f { call ^; }");
        probe.wrongAtMark("way f { call f { } ^}");
        probe.wrongAtMark("way f { call f ^f; }");
        probe.wrongAtMark("way f { throw ^; }");
        probe.wrongAtMark("way f { throw ^do; }");
        probe.wrongAtMark("way f { throw a ^{ } }");
        probe.wrongAtMark("way f { set ^; }");
        probe.wrongAtMark("way f { set e^");
        probe.wrongAtMark("way f { if ^do; }");
        probe.wrongAtMark("way f { if { } else ^if { } }");
        probe.wrongAtMark("way f { if { } else { } ^else { } }");
        probe.wrongAtMark("way f { if { } ^; }");
        probe.wrongAtMark("way f { ^else { } }");
        probe.wrongAtMark("way f { while ^; }");
        probe.wrongAtMark("way f { while { } ^; }");
        probe.wrongAtMark("way f { loop ^}");
        probe.wrongAtMark("way f { break ^f; }");
        probe.wrongAtMark("way f { return ^}");
        probe.wrongAtMark("way f { run ^; }");
        probe.wrongAtMark("way f { run { } ^}");
        probe.wrongAtMark("way f { run { } throws ^; }");
        probe.wrongAtMark("way f { run { } throws a^");
        probe.wrongAtMark("way f { { } ^; }");
        probe.wrongAtMark("way f { ^( }");
    }

    private static void wrongTries(Probe probe) {
        probe.wrongAtMark("way f { try { } ^do; }");
        probe.wrongAtMark("way f { try { } ^}");
        probe.wrongAtMark("way f { try { } ^");
        probe.wrongAtMark("way f { try { } ^A");
        probe.wrongAtMark("way f { try ^do; }");
        probe.wrongAtMark("way f { try ( ^) { } }");
        probe.wrongAtMark("way f { try (f, ^) { } }");
        probe.wrongAtMark("way f { try (f ^| g) { } }");
        probe.wrongAtMark("way f { try (f) ^; }");
        probe.wrongAtMark("way f { try (f) ^(");
        probe.wrongAtMark("way f { try { } catch ^a e { } }");
        probe.wrongAtMark("way f { try { } catch (a ^) { } }");
        probe.wrongAtMark("way f { try { } catch (^) { } }");
        probe.wrongAtMark("way f { try { } catch (a | b ^) { } }");
        probe.wrongAtMark("way f { try { } catch (a | ^) { } }");
        probe.wrongAtMark("way f { try { } catch (a ^, b e) { } }");
        probe.wrongAtMark("way f { try { } catch (a e ^f) { } }");
        probe.wrongAtMark("way f { try { } catch (a e ^| f) { } }");
        probe.wrongAtMark("way f { try { } catch (a e) ^; }");
        probe.wrongAtMark("way f { try { } finally ^; }");
        probe.wrongAtMark("way f { try { } finally { } ^catch (a e) { } }");
        probe.wrongAtMark("way f { try { } finally { } ^finally { } }");
        probe.wrongAtMark("way f { ^catch (a e) { } }");
        probe.wrongAtMark("way f { ^finally { } }");
    }

    private static void wrongTokens(Probe probe) {
        probe.wrongAtMark("way ^A;");
        probe.wrongAtMark("way f^\t;");
        probe.wrongAtMark("way f^\r\n;");
        probe.wrongAtMark("way f^1;");
        probe.wrongAtMark("way f^_g;");
        probe.wrongAtMark("way f; ^`");
        probe.wrongAtMark("way f; ^[");
        probe.wrongAtMark("way f^\u0000;");
        probe.wrongAtMark("way f ^\u00ff");
        probe.wrongAtMark("way f { ^\u00e1 }");
        probe.wrongAtMark("way ^abcdefghi;");
        probe.wrongAtMark("way f; ^waywaywayway");
        probe.wrongAtMark("way f { do^, }");
        for (String word : KEYWORDS) {
            probe.wrongAtMark("way ^" + word + ";");
            probe.wrongAtMark("way f { throw ^" + word + "; }");
        }
    }

    private static void limitsOfUnits(Probe probe) {
        String kinds = "kind a below plain;".repeat(12);
        String ways = "way f;".repeat(12);
        probe.right(kinds + ways, 12);
        probe.due("told(0)", probe.x.told(0), 16);
        probe.wrongAtMark(kinds + ways + "^kind b below a;");
        probe.wrongAtMark(kinds + ways + "^way g;");
        probe.wrongAtMark(ways + " ^way ;");
        probe.wrongAtMark(kinds + " ^kind ;");
        String statements = "do;".repeat(120);
        probe.right("way f{" + statements + "}", 1);
        probe.due("told(2)", probe.x.told(2), 120);
        probe.wrongAtMark("way f{" + statements + "^do;}");
        probe.wrongAtMark("way f{" + statements + "}way g{ ^{}}");
        probe.right("way f{" + "do;".repeat(60) + "}way g{" + "{}".repeat(60) + "}", 2);
        probe.right("way f{" + "do;".repeat(117) + "try{do;}catch(a e){do;}}", 1);
        probe.wrongAtMark("way f{" + "do;".repeat(117) + "try{do;}catch(a e){do;}finally{^do;}}");
    }

    private static void limitsOfLists(Probe probe) {
        probe.right("way f throws a, b, c, d { }", 1);
        probe.wrongAtMark("way f throws a, b, c, d, ^e { }");
        probe.wrongAtMark("way f throws a, a, a, a, ^a;");
        probe.right("way f { run { } throws a, b, c, d; }", 1);
        probe.wrongAtMark("way f { run { } throws a, b, c, d, ^e; }");
        probe.right("way f { try (a, b, c, d) { } }", 1);
        probe.wrongAtMark("way f { try (a, b, c, d, ^e) { } }");
        probe.right("way f { try { } catch (a | b | c | d e) { } }", 1);
        probe.wrongAtMark("way f { try { } catch (a | b | c | d | ^e f) { } }");
        probe.wrongAtMark("way f { try { } catch (a | b | c | d | ^e) { } }");
        String catches = "catch (a e) { } ".repeat(4);
        probe.right("way f { try { } " + catches + "finally { } }", 1);
        probe.wrongAtMark("way f { try { } " + catches + "^catch (a e) { } }");
    }

    private static void limitOfBraces(Probe probe) {
        probe.right("way f " + "{".repeat(8) + "}".repeat(8), 1);
        probe.due("told(2)", probe.x.told(2), 7);
        probe.wrongAtMark("way f " + "{".repeat(8) + "^{" + "}".repeat(9));
        probe.right("way f { if { while { loop { call f { run { try { { } } finally { } }; }; } } } }", 1);
        probe.wrongAtMark("way f { if { while { loop { call f { run { try { { ^{ } } } finally { } }; }; } } } }");
        probe.wrongAtMark("way f " + "{".repeat(8) + "call f ^{ }; " + "}".repeat(8));
        probe.wrongAtMark("way f " + "{".repeat(7) + "try { } catch (a e) { if ^{ } } " + "}".repeat(7));
        probe.right("way f " + "{".repeat(7) + "{ } { } if { } else { }" + "}".repeat(7) + " way g { }", 2);
    }

    private static void whatStays(Probe probe) {
        probe.right("kind a below plain; way f { do; throw zz; }", 1);
        Counted x = probe.x;
        probe.due("told(4) behind a right text", x.told(4), 0);
        probe.due("walk(0, 5)", x.walk(0, 5), ThrowRules.NONE);
        probe.due("read of a wrong text", probe.read("way g; way h; kind b below a; way f { do; do; throw zz; set zz;"), -10 - 63);
        probe.due("told(4) behind a wrong text", x.told(4), 0);
        probe.due("told(0)", x.told(0), 5);
        probe.due("told(1)", x.told(1), 1);
        probe.due("told(2)", x.told(2), 2);
        probe.due("told(3)", x.told(3), 1);
        probe.due("method(0, 0)", x.method(0, 0), 24);
        probe.due("find f", probe.find("f"), 200);
        probe.due("find g", probe.find("g"), ThrowRules.NONE);
        probe.due("read of another text", probe.read("way g; way h;"), 2);
        probe.due("told(0) of it", x.told(0), 4);
        probe.due("told(2) of it", x.told(2), 0);
        probe.due("told(3) of it", x.told(3), 0);
        probe.due("find f in it", probe.find("f"), ThrowRules.NONE);
        probe.due("steps() of the walk before", x.steps(), 2);
        probe.due("read of the empty tape", x.read(), 0);
        probe.due("told(1) of the empty text", x.told(1), 0);
    }
}
