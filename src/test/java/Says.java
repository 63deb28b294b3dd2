import java.lang.annotation.Retention;
import java.lang.annotation.RetentionPolicy;

/** The words of the document that a test is about. */
@Retention(RetentionPolicy.RUNTIME)
@interface Says {
    /** Under the heading of which promise they stand; 0: ahead of all promises. */
    int promise() default 0;

    String[] value();
}
