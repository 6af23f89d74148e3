import java.lang.annotation.Retention;
import java.lang.annotation.RetentionPolicy;

/** The sentence of the document whose boundary a test goes up to, and where it stands. */
@Retention(RetentionPolicy.RUNTIME)
@interface Says {
    String at();

    String value();
}
