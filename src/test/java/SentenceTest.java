import java.io.IOException;

/** A test of its own for each sentence of the document; runs from the project's own directory. */
final class SentenceTest {
    public static void main(String[] args) throws IOException {
        BookSentences.all();
        DaySentences.all();
        ComesSentences.all();
        ShelfSentences.all();
        EnterSentences.all();
        TellSentences.all();
        WhatIfSentences.all();
        DetailSentences.all();
        Due.closeSentence();
        Doc.dueCovered();
        Due.finish();
    }
}
