import java.lang.annotation.Retention;
import java.lang.annotation.RetentionPolicy;

/** The sentences of DOC.md that a test would fail for, word by word, and the part they stand in. */
@Retention(RetentionPolicy.RUNTIME)
@interface Says {
    String of();

    String[] value();
}
