import java.lang.annotation.ElementType;
import java.lang.annotation.Retention;
import java.lang.annotation.RetentionPolicy;
import java.lang.annotation.Target;

/** The promise that a test is about, and the words of ../shared/DOC.md that it would find broken (see QuotesTest). */
@Retention(RetentionPolicy.RUNTIME)
@Target(ElementType.METHOD)
@interface Says {
    int promise();

    String[] value();
}
