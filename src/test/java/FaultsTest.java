/** Texts that are read and texts that are not: a fault's place is marked by ^ ahead of the token. */
public final class FaultsTest {
    private static final Check CHECK = new Check();

    private static final String[] READ = {
        "all A:B", "  all  A  :  B  ", "allA:B", "not allA:B", "least2A:B", "least 2A:B", "  not   least   0   A:B ",
        "just 6 A:B", "most!A:!B", "no(A):(B)", "even A&B|C:!A&!B|!C", "more !!!!!!!!A:((((((((B))))))))",
        "all !(!(!(!(A)))):B", "some ((((A)&(B))|!(!C))):!(!A)&!(!B)",
        // 8 open, one after the other
        "no !!!!!!!!A&!!!!!!!!B:A",
        "no ((((((((A))))))))|(((((((B))))))):C",
        // 24 of them
        "no A|A|A|A|A|A|A|A|A|A|A|A|A|A|A|A|A|A|A|A|A|A|A:B",
        "no !A|!A|!A|!A|!A|!A|(A|A|A|A|A|A|A|A|A|A):B",
    };

    private static final String[] NOT_READ = {
        // the text's length, if it ends too early
        "^", "   ^", "not^", "not ^", "all^", "least ^", "least 3^", "all A^", "all A ^", "all A:^", "all A:  ^", "all A:!^",
        "all A:(^", "all A:(B^", "all A:(B ^", "all A&^", "all A:B|^", "all A:B& ^", "all (A^",
        // words
        "^foo A:B", "^alll A:B", "^al A:B", "^notall A:B", "^alls A:B", "^leas 2 A:B", "^a A:B", "^nota A:B", "not ^not all A:B",
        "all ^all A:B", "all A ^all:B", "all A:B ^all", "not ^noti A:B", "^abcdefghijklmnopqrstuvwxyz", "^zzzzzzzzall A:B",
        "^someall A:B", "not ^AB:C", "not^5 A:B", "all ^not A:B", "^evenly A:B", "^allz A:B", "^alla A:B", "not ^nozzz A:B", "not no^", "all A:^x", "all A&^most:B",
        // numbers
        "all ^2 A:B", "least ^A:B", "least ^7 A:B", "least ^10 A:B", "least ^06 A:B", "least ^00 A:B", "least 2 ^3 A:B",
        "just ^99999999999999999999999999 A:B", "just ^4294967296 A:B", "just ^01 A:B", "most ^1 A:B", "least 2 A:^2", "^2 A:B",
        "all A:B ^2", "least ^: A:B", "least ^18446744073709551618 A:B", "least ^19 A:B", "least ^29876543210 A:B", "just ^60 A:B",
        // kinds
        "all ^D:A", "all A:^D", "all ^E:A", "all A:^Z", "all A ^B:C", "all A:B ^C", "^A:B", "^D", "all A^D", "all A:B^D",
        "all A&^D:B", "all !^D:B", "all (^D):B",
        // signs
        "all ^:B", "all A:^:B", "all A:B^:C", "all A^(B):C", "all A^!B:C", "all ^|A:B", "all ^&A:B", "all A|^|B:C", "all A&^|B:C",
        "all ^):B", "all (^):B", "all (A)^):B", "all (A^:B", "all A^):B", "all A:B^)", "all (A&^):B", "all !^&A:B", "all A:B^!",
        "all A:(B^:C", "all ^", "all A^=B", "all ^.A:B", "^.", "all A^.", "all A:B ^.", "all A:B^\t", "^\tall A:B", "all^\nA:B",
        "all ^a:B", "^All A:B", "all A^;B", "all A^\u0080:B", "all A:B^\u00ff", "all A:B^\u0000", "all A^@:B", "^{", "^`", "all A^[",
        "all A:B^/", "least ^/ A:B", "all ^\u00e1:B", "not ^: A",
        // the ninth open one
        "no !!!!!!!!^!A:B", "no ((((((((^(A))))))))):B", "no (!(!(!(!^(A:B", "no (((((((!^!A:B", "no A:!!!!!!!!^!B",
        "no !!!!!!!!A&!!!!!!!!^!B:A", "no (!A|!!!!!!!^!B):A", "no ((((((((^!A:B",
        // the 25th of them
        "no A|A|A|A|A|A|A|A|A|A|A|A|A|A|A|A|A|A|A|A|A|A|A|A:^B",
        "no A|A|A|A|A|A|A|A|A|A|A|A|A|A|A|A|A|A|A|A|A|A|A|A|^A:B",
        "no A|A|A|A|A|A|A|A|A|A|A|A|A|A|A|A|A|A|A|A|A|A|A|A|^!A:B",
        "no !A|!A|!A|!A|!A|!A|(A|A|A|A|A|A|A|A|A|A|A):^(B)",
        "no A:!!!!!A|!!!!!A|!!!!!A|!!!!!^A",
        "no A:!!!!!A|!!!!!A|!!!!!A|!!!!!^D",
        "no A:((A))|((A))|((A))|((A))|((A))|((A))|((A))|((^A))",
        // too early, though there could be no more
        "no A|A|A|A|A|A|A|A|A|A|A|A|A|A|A|A|A|A|A|A|A|A|A|A^",
        "no A|A|A|A|A|A|A|A|A|A|A|A|A|A|A|A|A|A|A|A|A|A|A|A|^",
        // the first of several
        "^foo ^D", "all ^D:^E", "all A:B ^C ^D", "least ^7 ^D:.",
    };

    private static void looksAt(String marked) {
        int fault = marked.indexOf('^');
        String text = marked.replace("^", "");
        KindSayings x = new KindSayings();
        Check.type(x, text);
        CHECK.due("read of '" + text + "'", x.read(3), -10 - fault);
        CHECK.due("text of '" + text + "' stays", x.count(3), text.length());
        CHECK.due("saying stays, '" + text + "'", x.about(3, 5), 0);
        CHECK.due("again, '" + text + "'", x.read(4), -10 - fault);
    }

    /** A full text of 80 bytes, and a fault at its very end. */
    private static void fullTexts() {
        KindSayings x = new KindSayings();
        String blanks = " ".repeat(73);
        CHECK.due("full text", Check.tell(x, 0, "all" + blanks + "A:BC".substring(0, 3) + " "), 1);
        CHECK.due("its fault", Check.tell(x, 0, "all" + blanks + "A:BC"), -10 - 79);
        CHECK.due("its length", Check.tell(x, 0, "all" + blanks + "A:B&"), -10 - 80);
        CHECK.due("blanks alone", Check.tell(x, 0, " ".repeat(80)), -10 - 80);
        CHECK.due("letters alone", Check.tell(x, 0, "a".repeat(80)), -10);
        CHECK.due("figures alone", Check.tell(x, 0, "least" + "1".repeat(75)), -15);
        CHECK.due("brackets alone", Check.tell(x, 0, "all" + "(".repeat(77)), -10 - 11);
        CHECK.due("signs alone", Check.tell(x, 0, "all" + "!A|".repeat(25)), -10 - 3 - 36);
    }

    /** Which kinds there are changes with k. */
    private static void kindsThereAre() {
        for (int k = 1; k <= 4; k++) {
            KindSayings x = new KindSayings();
            x.kinds(k);
            for (int kind = 0; kind < 4; kind++) {
                String name = String.valueOf((char) ('A' + kind));
                CHECK.due("kind " + name + " of " + k, Check.tell(x, 0, "no " + name + ":A"), kind < k ? 1 : -13);
                CHECK.due("kind " + name + " of " + k, Check.tell(x, 0, "no A:" + name), kind < k ? 1 : -15);
            }
        }
    }

    public static void main(String[] args) {
        for (String text : READ) {
            CHECK.due("read of '" + text + "'", Check.tell(new KindSayings(), 0, text), 1);
        }
        for (String text : NOT_READ) {
            looksAt(text);
        }
        fullTexts();
        kindsThereAre();
        CHECK.finish();
    }
}
