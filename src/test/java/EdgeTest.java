/** The sentences of the document that name a boundary case, each by its own words, with a test of its own. */
final class EdgeTest {
    public static void main(String[] args) {
        Check c = new Check();
        Document doc = new Document(c);
        new EdgeWire(c, doc).run();
        new EdgeCabin(c, doc).run();
        new EdgeHour(c, doc).run();
        new EdgeWeighed(c, doc).run();
        new EdgeAll(c, doc).run();
        doc.isSaidWhole();
        c.end("EdgeTest");
    }
}
