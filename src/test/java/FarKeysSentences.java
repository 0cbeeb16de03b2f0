import java.nio.file.Files;
import java.nio.file.Path;
import java.util.ArrayList;
import java.util.List;
import java.util.regex.Matcher;
import java.util.regex.Pattern;

/**
 * What the tests of boundaries quote stands in the document, and each sentence of each promise is
 * quoted by one of them: so none is left out, and a document that changes is seen.
 */
public final class FarKeysSentences {
    private static final String[] TESTS = {"FarKeysTextBounds", "FarKeysBounds", "FarKeysRefused"};

    /** Of the terms: what names a boundary there, in the document's order. */
    private static final String[] TERMS = {
        "An object is used for at most 512 calls", "(a GUARD; 2 .. 4)", "(a SIGN; 1 .. 5)", "none to 12", "one at most", "in any order",
        "none or more", "each once at most in a CLAUSE", "a number (one or two digits)", "(0 .. 99; 10 without)", "t for TRYING (0 .. 99; 0)",
        "t PARTS (0 .. 59; 0)", "e ERROR (0 .. 3; 0)", "one told ahead of it", "in the first SIGN any number is out of bounds",
        "s the SIGN (0 .. 4; 0)", "g the GUARD (0 .. 3; 0)", "d how much LATER (0 .. 9; 0)", "n NEED (2 .. 4; 2)", "w BREATH (0 .. 9; 1)",
        "PLANS (8 at most)", "a SIGN's letter (a .. e)", "At most six of ( within one another", "not within numbers",
        "the first byte at which no such TEXT can go on", "if it ends too early", "with fewer than two GUARDS", "without a SIGN",
        "asked with an o alone", "two h of one SIGN and GUARD", "out of bounds is wrong at its last digit",
        "a third digit (whatever stands ahead of it) itself", "a letter that was there", "a fifth g, a sixth s, a thirteenth h, a second b, a seventh (",
        "from - ERROR to ERROR", "never, if it does not", "(May be below 0.)", "if there is no such one", "never, if one is",
        "A GUARD without a PLAN never turns", "no more than that behind the first of them", "(2 ERROR and 1)", "a fraction made plain",
        "in how many it never does", "those ways out in which fewer turn", "the least (0 .. 99)", "0 .. 9 later", "the lowest SIGN, then number",
        "the lowest of the first, then of the other", "it OPENS in all ways", "in no fewer ways", "-9 .. 9", "by how much (0 .. 9)", "of several the least",
        "(of several the lowest) has what it has", "neither has more", "(that there is) as it is", "SCRATCHES (10 at most)", "(-99 .. 199)",
        "(bits: OFF and 3)", "the fewest SCRATCHES", "(40 at most, no more then)", "(draws, too)", "(0 at first)", "(64 bits, going round)",
        "(bits, not 0)", "for the first time NEED", "less with the other one", "the ODDS greatest (of several the lowest)", "RISK (0 .. 100)",
        "RISK by 100, cut", "by all ways, cut", "(0: behind none)", "HIDDEN: it is never there", "in fewer ways",
        "the lowest GUARD, then SIGN", "they are so again", "What is refused answers as told and changes nothing"};

    private static int wrong = 0;

    private static void holds(boolean so, String what) {
        if (!so) {
            wrong++;
            System.out.println(what);
        }
    }

    public static void main(String[] args) throws Exception {
        String doc = plain(Files.readString(Path.of("../shared/DOC.md")));
        List<String> quotes = new ArrayList<>();
        for (String test : TESTS) quotes.addAll(quotesOf(Files.readString(Path.of("src/test/java/" + test + ".java"))));
        for (String quote : quotes) holds(doc.contains(quote), "not in the document: " + quote);
        String[] promises = doc.split("## Promise ");
        holds(promises.length == 45, "there are " + (promises.length - 1) + " promises");
        for (int i = 1; i < promises.length; i++) sentencesOf(promises[i].split(" ## ")[0], promises, quotes);
        int at = 0;
        for (String term : TERMS) {
            int found = promises[0].indexOf(term, at);
            holds(found >= 0, "not in the terms, or not in this order: " + term);
            at = Math.max(at, found);
            holds(quotes.stream().anyMatch(quote -> quote.contains(term)), "no test quotes of the terms: " + term);
        }
        System.out.println(wrong == 0 ? "all sentences are quoted" : wrong + " sentences are not");
        if (wrong != 0) System.exit(1);
    }

    private static String plain(String text) {
        return text.replace("`", "").replaceAll("\\s+", " ");
    }

    /** The texts that stand behind "sentence =", put together where they go over several lines. */
    private static List<String> quotesOf(String source) {
        List<String> quotes = new ArrayList<>();
        Matcher m = Pattern.compile("sentence = (\"[^\"]*\"(?:\\s*\\+\\s*\"[^\"]*\")*);").matcher(source);
        while (m.find()) {
            String quote = m.group(1).replaceAll("\"\\s*\\+\\s*\"", "").replace("\"", "");
            if (!quote.isEmpty()) quotes.add(quote);
        }
        return quotes;
    }

    /** A quote that more than one promise has tells nothing of this one. */
    private static void sentencesOf(String promise, String[] promises, List<String> quotes) {
        // behind the call as it is declared
        String text = promise.replaceFirst("^.*?\\)( throws \\w+)?: ", "").replaceAll("\\.? *$", "");
        for (String sentence : text.split("\\. ")) {
            boolean quoted = false;
            for (String quote : quotes) {
                int having = 0;
                for (int i = 1; i < promises.length; i++) if (promises[i].contains(quote)) having++;
                quoted |= having == 1 && promise.contains(quote) && quote.contains(sentence);
            }
            holds(quoted, "no test quotes of promise " + promise.split(" ")[0] + " " + sentence);
        }
    }
}
