import java.lang.annotation.Retention;
import java.lang.annotation.RetentionPolicy;

/** The sentences of the document, to the letter, that a test would fail by if they were broken. */
@Retention(RetentionPolicy.RUNTIME)
@interface Says {
    String[] value();
}
