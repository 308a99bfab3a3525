import java.lang.annotation.Retention;
import java.lang.annotation.RetentionPolicy;

/** The sentence of the document that a test is for: where it stands ("Promise 2", "II") and its words there. */
@Retention(RetentionPolicy.RUNTIME)
@interface Says {
    String in();

    String words();
}
