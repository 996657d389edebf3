/**
 * The document, sentence by sentence: each test of the terms and the promises names its part and
 * quotes its words; it fails if the words aren't there, if they don't hold, or if some are left out.
 */
public final class SentencesTest {
    private SentencesTest() {
    }

    public static void main(String[] args) {
        Document document = Document.at(System.getProperty("document", "../shared/DOC.md"));
        Check check = new Check(document);
        UseOfAnObject.hold(check);
        Terms1Rules.hold(check);
        Terms1Faults.hold(check);
        Terms2Findings.hold(check);
        Terms3Told.hold(check);
        Terms3Held.hold(check);
        Promise01NewObject.hold(check);
        Promise02Feed.hold(check);
        Promise03Rules.hold(check);
        Promise04Fault.hold(check);
        Promise05Put.hold(check);
        Promise06Miss.hold(check);
        Promise07Number.hold(check);
        Promise08Finding.hold(check);
        Promise09Tell.hold(check);
        Promise10Sign.hold(check);
        Promise11Told.hold(check);
        Promise12Held.hold(check);
        Promise13Next.hold(check);
        Promise14Changed.hold(check);
        Promise15Count.hold(check);
        System.out.println(check.sentences() + " quotes are tested");
        Check whole = new Check();
        noneIsLeftOut(whole, document);
        check.end();
        whole.end();
    }

    private static void noneIsLeftOut(Check whole, Document document) {
        if (document == null) {
            System.out.println("the document isn't there: its words are not looked up");
            return;
        }
        whole.same("parts of the document", document.size(), 1 + 3 + 15);
        for (String words : document.notQuoted()) {
            whole.fails("no test quotes " + words);
        }
    }
}
