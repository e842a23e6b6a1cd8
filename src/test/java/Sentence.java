import java.lang.annotation.Retention;
import java.lang.annotation.RetentionPolicy;

/** Which words of the document a test holds the class to. */
@Retention(RetentionPolicy.RUNTIME)
@interface Sentence {
    /** The promise's number, the Term's Roman number, or the heading that the words stand under. */
    String of();

    /** The document's own words; SentencesTest looks them up there. */
    String says();
}
